theorem dX11_lay_1 : decode cX11_lay 1 = .ok (.iconst 0, 1) := by decide +kernel
theorem dX11_lay_2 : decode cX11_lay 2 = .ok (.putfield 96, 3) := by decide +kernel
theorem dX11_lay_5 : decode cX11_lay 5 = .ok (.aload_n 0, 1) := by decide +kernel
theorem dX11_lay_6 : decode cX11_lay 6 = .ok (.getfield 160, 3) := by decide +kernel
theorem dX11_lay_9 : decode cX11_lay 9 = .ok (.ifCond .eq 24, 3) := by decide +kernel
theorem dX11_lay_12 : decode cX11_lay 12 = .ok (.aload_n 0, 1) := by decide +kernel
theorem dX11_lay_13 : decode cX11_lay 13 = .ok (.getfield 93, 3) := by decide +kernel
theorem dX11_lay_16 : decode cX11_lay 16 = .ok (.ifCond .eq 17, 3) := by decide +kernel
theorem dX11_lay_19 : decode cX11_lay 19 = .ok (.aload_n 0, 1) := by decide +kernel
theorem dX11_lay_20 : decode cX11_lay 20 = .ok (.iconst (-1), 1) := by decide +kernel
theorem dX11_lay_21 : decode cX11_lay 21 = .ok (.aload_n 0, 1) := by decide +kernel
theorem dX11_lay_22 : decode cX11_lay 22 = .ok (.getfield 32, 3) := by decide +kernel
theorem dX11_lay_25 : decode cX11_lay 25 = .ok (.iconst 0, 1) := by decide +kernel
theorem dX11_lay_26 : decode cX11_lay 26 = .ok (.iaload, 1) := by decide +kernel
theorem dX11_lay_27 : decode cX11_lay 27 = .ok (.invokevirtual 115, 3) := by decide +kernel
theorem dX11_lay_30 : decode cX11_lay 30 = .ok (.ifCond .ge 6, 3) := by decide +kernel
theorem dX11_lay_33 : decode cX11_lay 33 = .ok (.bipush (-3), 2) := by decide +kernel
theorem dX11_lay_35 : decode cX11_lay 35 = .ok (.ireturn, 1) := by decide +kernel
theorem dX11_lay_36 : decode cX11_lay 36 = .ok (.aload_n 0, 1) := by decide +kernel
theorem dX11_lay_37 : decode cX11_lay 37 = .ok (.invokevirtual 176, 3) := by decide +kernel
theorem dX11_lay_40 : decode cX11_lay 40 = .ok (.aload_n 0, 1) := by decide +kernel
theorem dX11_lay_41 : decode cX11_lay 41 = .ok (.iconst 0, 1) := by decide +kernel
theorem dX11_lay_42 : decode cX11_lay 42 = .ok (.iconst 0, 1) := by decide +kernel
theorem dX11_lay_43 : decode cX11_lay 43 = .ok (.invokevirtual 163, 3) := by decide +kernel
theorem dX11_lay_46 : decode cX11_lay 46 = .ok (.istore_n 1, 1) := by decide +kernel
theorem dX11_lay_47 : decode cX11_lay 47 = .ok (.iload_n 1, 1) := by decide +kernel
theorem dX11_lay_48 : decode cX11_lay 48 = .ok (.ldc 119, 2) := by decide +kernel
theorem dX11_lay_50 : decode cX11_lay 50 = .ok (.if_icmp .ne 6, 3) := by decide +kernel
theorem dX11_lay_53 : decode cX11_lay 53 = .ok (.bipush (-3), 2) := by decide +kernel
theorem dX11_lay_55 : decode cX11_lay 55 = .ok (.ireturn, 1) := by decide +kernel
theorem dX11_lay_56 : decode cX11_lay 56 = .ok (.iconst 0, 1) := by decide +kernel
theorem dX11_lay_57 : decode cX11_lay 57 = .ok (.istore_n 2, 1) := by decide +kernel
theorem dX11_lay_58 : decode cX11_lay 58 = .ok (.iconst 0, 1) := by decide +kernel
theorem dX11_lay_59 : decode cX11_lay 59 = .ok (.istore_n 3, 1) := by decide +kernel
theorem dX11_lay_60 : decode cX11_lay 60 = .ok (.iload_n 3, 1) := by decide +kernel
theorem dX11_lay_61 : decode cX11_lay 61 = .ok (.aload_n 0, 1) := by decide +kernel
theorem dX11_lay_62 : decode cX11_lay 62 = .ok (.getfield 160, 3) := by decide +kernel
theorem dX11_lay_65 : decode cX11_lay 65 = .ok (.if_icmp .ge 169, 3) := by decide +kernel
theorem dX11_lay_68 : decode cX11_lay 68 = .ok (.iconst 0, 1) := by decide +kernel
theorem dX11_lay_69 : decode cX11_lay 69 = .ok (.istore 4, 2) := by decide +kernel
theorem dX11_lay_71 : decode cX11_lay 71 = .ok (.aload_n 0, 1) := by decide +kernel
theorem dX11_lay_72 : decode cX11_lay 72 = .ok (.getfield 83, 3) := by decide +kernel
theorem dX11_lay_75 : decode cX11_lay 75 = .ok (.iload_n 3, 1) := by decide +kernel
theorem dX11_lay_76 : decode cX11_lay 76 = .ok (.iload 4, 2) := by decide +kernel
theorem dX11_lay_78 : decode cX11_lay 78 = .ok (.iconst 0, 1) := by decide +kernel
theorem dX11_lay_79 : decode cX11_lay 79 = .ok (.iload_n 2, 1) := by decide +kernel
theorem dX11_lay_80 : decode cX11_lay 80 = .ok (.invokestatic 166, 3) := by decide +kernel
theorem dX11_lay_83 : decode cX11_lay 83 = .ok (.iaload, 1) := by decide +kernel
theorem dX11_lay_84 : decode cX11_lay 84 = .ok (.aload_n 0, 1) := by decide +kernel
theorem dX11_lay_85 : decode cX11_lay 85 = .ok (.iload_n 3, 1) := by decide +kernel
theorem dX11_lay_86 : decode cX11_lay 86 = .ok (.iload_n 2, 1) := by decide +kernel
theorem dX11_lay_87 : decode cX11_lay 87 = .ok (.invokevirtual 163, 3) := by decide +kernel
theorem dX11_lay_90 : decode cX11_lay 90 = .ok (.if_icmp .eq 9, 3) := by decide +kernel
theorem dX11_lay_93 : decode cX11_lay 93 = .ok (.iinc 4 1, 3) := by decide +kernel
theorem dX11_lay_96 : decode cX11_lay 96 = .ok (.goto (-25), 3) := by decide +kernel
theorem dX11_lay_99 : decode cX11_lay 99 = .ok (.iconst 2, 1) := by decide +kernel
theorem dX11_lay_100 : decode cX11_lay 100 = .ok (.aload_n 0, 1) := by decide +kernel
theorem dX11_lay_101 : decode cX11_lay 101 = .ok (.getfield 32, 3) := by decide +kernel
theorem dX11_lay_104 : decode cX11_lay 104 = .ok (.iload_n 3, 1) := by decide +kernel
theorem dX11_lay_105 : decode cX11_lay 105 = .ok (.iaload, 1) := by decide +kernel
theorem dX11_lay_106 : decode cX11_lay 106 = .ok (.imul, 1) := by decide +kernel
theorem dX11_lay_107 : decode cX11_lay 107 = .ok (.iload 4, 2) := by decide +kernel
theorem dX11_lay_109 : decode cX11_lay 109 = .ok (.iadd, 1) := by decide +kernel
theorem dX11_lay_110 : decode cX11_lay 110 = .ok (.istore 5, 2) := by decide +kernel
theorem dX11_lay_112 : decode cX11_lay 112 = .ok (.iconst 0, 1) := by decide +kernel
theorem dX11_lay_113 : decode cX11_lay 113 = .ok (.istore 6, 2) := by decide +kernel
theorem dX11_lay_115 : decode cX11_lay 115 = .ok (.iload 6, 2) := by decide +kernel
theorem dX11_lay_117 : decode cX11_lay 117 = .ok (.aload_n 0, 1) := by decide +kernel
theorem dX11_lay_118 : decode cX11_lay 118 = .ok (.getfield 23, 3) := by decide +kernel
theorem dX11_lay_121 : decode cX11_lay 121 = .ok (.iload 5, 2) := by decide +kernel
theorem dX11_lay_123 : decode cX11_lay 123 = .ok (.iaload, 1) := by decide +kernel
theorem dX11_lay_124 : decode cX11_lay 124 = .ok (.if_icmp .ge 104, 3) := by decide +kernel
theorem dX11_lay_127 : decode cX11_lay 127 = .ok (.iload_n 2, 1) := by decide +kernel
theorem dX11_lay_128 : decode cX11_lay 128 = .ok (.iconst 1, 1) := by decide +kernel
theorem dX11_lay_129 : decode cX11_lay 129 = .ok (.iadd, 1) := by decide +kernel
theorem dX11_lay_130 : decode cX11_lay 130 = .ok (.istore 7, 2) := by decide +kernel
theorem dX11_lay_132 : decode cX11_lay 132 = .ok (.aload_n 0, 1) := by decide +kernel
theorem dX11_lay_133 : decode cX11_lay 133 = .ok (.iload_n 3, 1) := by decide +kernel
theorem dX11_lay_134 : decode cX11_lay 134 = .ok (.iload 4, 2) := by decide +kernel
theorem dX11_lay_136 : decode cX11_lay 136 = .ok (.iload 6, 2) := by decide +kernel
theorem dX11_lay_138 : decode cX11_lay 138 = .ok (.iload_n 2, 1) := by decide +kernel
theorem dX11_lay_139 : decode cX11_lay 139 = .ok (.iload 7, 2) := by decide +kernel
theorem dX11_lay_141 : decode cX11_lay 141 = .ok (.invokevirtual 172, 3) := by decide +kernel
theorem dX11_lay_144 : decode cX11_lay 144 = .ok (.aload_n 0, 1) := by decide +kernel
theorem dX11_lay_145 : decode cX11_lay 145 = .ok (.getfield 83, 3) := by decide +kernel
theorem dX11_lay_148 : decode cX11_lay 148 = .ok (.iload_n 3, 1) := by decide +kernel
theorem dX11_lay_149 : decode cX11_lay 149 = .ok (.iload 4, 2) := by decide +kernel
theorem dX11_lay_151 : decode cX11_lay 151 = .ok (.iload 6, 2) := by decide +kernel
theorem dX11_lay_153 : decode cX11_lay 153 = .ok (.iload_n 2, 1) := by decide +kernel
theorem dX11_lay_154 : decode cX11_lay 154 = .ok (.invokestatic 166, 3) := by decide +kernel
theorem dX11_lay_157 : decode cX11_lay 157 = .ok (.iaload, 1) := by decide +kernel
theorem dX11_lay_158 : decode cX11_lay 158 = .ok (.if_icmp .eq 9, 3) := by decide +kernel
theorem dX11_lay_161 : decode cX11_lay 161 = .ok (.iinc 7 1, 3) := by decide +kernel
theorem dX11_lay_164 : decode cX11_lay 164 = .ok (.goto (-32), 3) := by decide +kernel
theorem dX11_lay_167 : decode cX11_lay 167 = .ok (.iload_n 2, 1) := by decide +kernel
theorem dX11_lay_168 : decode cX11_lay 168 = .ok (.istore 8, 2) := by decide +kernel
theorem dX11_lay_170 : decode cX11_lay 170 = .ok (.iload 8, 2) := by decide +kernel
theorem dX11_lay_172 : decode cX11_lay 172 = .ok (.iload 7, 2) := by decide +kernel
theorem dX11_lay_174 : decode cX11_lay 174 = .ok (.if_icmp .ge 45, 3) := by decide +kernel
theorem dX11_lay_177 : decode cX11_lay 177 = .ok (.aload_n 0, 1) := by decide +kernel
theorem dX11_lay_178 : decode cX11_lay 178 = .ok (.getfield 35, 3) := by decide +kernel
theorem dX11_lay_181 : decode cX11_lay 181 = .ok (.iload 8, 2) := by decide +kernel
theorem dX11_lay_183 : decode cX11_lay 183 = .ok (.aload_n 0, 1) := by decide +kernel
theorem dX11_lay_184 : decode cX11_lay 184 = .ok (.getfield 26, 3) := by decide +kernel
theorem dX11_lay_187 : decode cX11_lay 187 = .ok (.iconst 4, 1) := by decide +kernel
theorem dX11_lay_188 : decode cX11_lay 188 = .ok (.iload 5, 2) := by decide +kernel
theorem dX11_lay_190 : decode cX11_lay 190 = .ok (.imul, 1) := by decide +kernel
theorem dX11_lay_191 : decode cX11_lay 191 = .ok (.iload 6, 2) := by decide +kernel
theorem dX11_lay_193 : decode cX11_lay 193 = .ok (.iadd, 1) := by decide +kernel
theorem dX11_lay_194 : decode cX11_lay 194 = .ok (.iaload, 1) := by decide +kernel
theorem dX11_lay_195 : decode cX11_lay 195 = .ok (.iastore, 1) := by decide +kernel
theorem dX11_lay_196 : decode cX11_lay 196 = .ok (.aload_n 0, 1) := by decide +kernel
theorem dX11_lay_197 : decode cX11_lay 197 = .ok (.getfield 38, 3) := by decide +kernel
theorem dX11_lay_200 : decode cX11_lay 200 = .ok (.iload 8, 2) := by decide +kernel
theorem dX11_lay_202 : decode cX11_lay 202 = .ok (.iload_n 3, 1) := by decide +kernel
theorem dX11_lay_203 : decode cX11_lay 203 = .ok (.iastore, 1) := by decide +kernel
theorem dX11_lay_204 : decode cX11_lay 204 = .ok (.aload_n 0, 1) := by decide +kernel
theorem dX11_lay_205 : decode cX11_lay 205 = .ok (.getfield 41, 3) := by decide +kernel
theorem dX11_lay_208 : decode cX11_lay 208 = .ok (.iload 8, 2) := by decide +kernel
theorem dX11_lay_210 : decode cX11_lay 210 = .ok (.iload 4, 2) := by decide +kernel
theorem dX11_lay_212 : decode cX11_lay 212 = .ok (.iastore, 1) := by decide +kernel
theorem dX11_lay_213 : decode cX11_lay 213 = .ok (.iinc 8 1, 3) := by decide +kernel
theorem dX11_lay_216 : decode cX11_lay 216 = .ok (.goto (-46), 3) := by decide +kernel
theorem dX11_lay_219 : decode cX11_lay 219 = .ok (.iload 7, 2) := by decide +kernel
theorem dX11_lay_221 : decode cX11_lay 221 = .ok (.istore_n 2, 1) := by decide +kernel
theorem dX11_lay_222 : decode cX11_lay 222 = .ok (.iinc 6 1, 3) := by decide +kernel
theorem dX11_lay_225 : decode cX11_lay 225 = .ok (.goto (-110), 3) := by decide +kernel
theorem dX11_lay_228 : decode cX11_lay 228 = .ok (.iinc 3 1, 3) := by decide +kernel
theorem dX11_lay_231 : decode cX11_lay 231 = .ok (.goto (-171), 3) := by decide +kernel
theorem dX11_lay_234 : decode cX11_lay 234 = .ok (.aload_n 0, 1) := by decide +kernel
theorem dX11_lay_235 : decode cX11_lay 235 = .ok (.iconst 1, 1) := by decide +kernel
theorem dX11_lay_236 : decode cX11_lay 236 = .ok (.putfield 96, 3) := by decide +kernel
theorem dX11_lay_239 : decode cX11_lay 239 = .ok (.iload_n 1, 1) := by decide +kernel
theorem dX11_lay_240 : decode cX11_lay 240 = .ok (.aload_n 0, 1) := by decide +kernel
theorem dX11_lay_241 : decode cX11_lay 241 = .ok (.iconst (-1), 1) := by decide +kernel
theorem dX11_lay_242 : decode cX11_lay 242 = .ok (.aload_n 0, 1) := by decide +kernel
theorem dX11_lay_243 : decode cX11_lay 243 = .ok (.getfield 32, 3) := by decide +kernel
theorem dX11_lay_246 : decode cX11_lay 246 = .ok (.iconst 0, 1) := by decide +kernel
theorem dX11_lay_247 : decode cX11_lay 247 = .ok (.iaload, 1) := by decide +kernel
theorem dX11_lay_248 : decode cX11_lay 248 = .ok (.invokevirtual 115, 3) := by decide +kernel
theorem dX11_lay_251 : decode cX11_lay 251 = .ok (.iadd, 1) := by decide +kernel
theorem dX11_lay_252 : decode cX11_lay 252 = .ok (.ireturn, 1) := by decide +kernel
theorem dX11_laid_0 : decode cX11_laid 0 = .ok (.iload_n 1, 1) := by decide +kernel
theorem dX11_laid_1 : decode cX11_laid 1 = .ok (.iconst 0, 1) := by decide +kernel
theorem dX11_laid_2 : decode cX11_laid 2 = .ok (.aload_n 0, 1) := by decide +kernel
theorem dX11_laid_3 : decode cX11_laid 3 = .ok (.getfield 93, 3) := by decide +kernel
theorem dX11_laid_6 : decode cX11_laid 6 = .ok (.iconst 1, 1) := by decide +kernel
theorem dX11_laid_7 : decode cX11_laid 7 = .ok (.isub, 1) := by decide +kernel
theorem dX11_laid_8 : decode cX11_laid 8 = .ok (.invokestatic 89, 3) := by decide +kernel
theorem dX11_laid_11 : decode cX11_laid 11 = .ok (.ifCond .eq 12, 3) := by decide +kernel
theorem dX11_laid_14 : decode cX11_laid 14 = .ok (.iload_n 2, 1) := by decide +kernel
theorem dX11_laid_15 : decode cX11_laid 15 = .ok (.iconst 0, 1) := by decide +kernel
theorem dX11_laid_16 : decode cX11_laid 16 = .ok (.iconst 2, 1) := by decide +kernel
theorem dX11_laid_17 : decode cX11_laid 17 = .ok (.invokestatic 89, 3) := by decide +kernel
theorem dX11_laid_20 : decode cX11_laid 20 = .ok (.ifCond .ne 6, 3) := by decide +kernel
theorem dX11_laid_23 : decode cX11_laid 23 = .ok (.bipush (-2), 2) := by decide +kernel
theorem dX11_laid_25 : decode cX11_laid 25 = .ok (.ireturn, 1) := by decide +kernel
theorem dX11_laid_26 : decode cX11_laid 26 = .ok (.aload_n 0, 1) := by decide +kernel
theorem dX11_laid_27 : decode cX11_laid 27 = .ok (.getfield 96, 3) := by decide +kernel
theorem dX11_laid_30 : decode cX11_laid 30 = .ok (.ifCond .ne 8, 3) := by decide +kernel
theorem dX11_laid_33 : decode cX11_laid 33 = .ok (.bipush (-3), 2) := by decide +kernel
theorem dX11_laid_35 : decode cX11_laid 35 = .ok (.goto 36, 3) := by decide +kernel
theorem dX11_laid_38 : decode cX11_laid 38 = .ok (.iload_n 2, 1) := by decide +kernel
theorem dX11_laid_39 : decode cX11_laid 39 = .ok (.ifCond .ne 12, 3) := by decide +kernel
theorem dX11_laid_42 : decode cX11_laid 42 = .ok (.aload_n 0, 1) := by decide +kernel
theorem dX11_laid_43 : decode cX11_laid 43 = .ok (.getfield 35, 3) := by decide +kernel
theorem dX11_laid_46 : decode cX11_laid 46 = .ok (.iload_n 1, 1) := by decide +kernel
theorem dX11_laid_47 : decode cX11_laid 47 = .ok (.iaload, 1) := by decide +kernel
theorem dX11_laid_48 : decode cX11_laid 48 = .ok (.goto 23, 3) := by decide +kernel
theorem dX11_laid_51 : decode cX11_laid 51 = .ok (.iload_n 2, 1) := by decide +kernel
theorem dX11_laid_52 : decode cX11_laid 52 = .ok (.iconst 1, 1) := by decide +kernel
theorem dX11_laid_53 : decode cX11_laid 53 = .ok (.if_icmp .ne 12, 3) := by decide +kernel
theorem dX11_laid_56 : decode cX11_laid 56 = .ok (.aload_n 0, 1) := by decide +kernel
theorem dX11_laid_57 : decode cX11_laid 57 = .ok (.getfield 38, 3) := by decide +kernel
theorem dX11_laid_60 : decode cX11_laid 60 = .ok (.iload_n 1, 1) := by decide +kernel
theorem dX11_laid_61 : decode cX11_laid 61 = .ok (.iaload, 1) := by decide +kernel
theorem dX11_laid_62 : decode cX11_laid 62 = .ok (.goto 9, 3) := by decide +kernel
theorem dX11_laid_65 : decode cX11_laid 65 = .ok (.aload_n 0, 1) := by decide +kernel
theorem dX11_laid_66 : decode cX11_laid 66 = .ok (.getfield 41, 3) := by decide +kernel
theorem dX11_laid_69 : decode cX11_laid 69 = .ok (.iload_n 1, 1) := by decide +kernel
theorem dX11_laid_70 : decode cX11_laid 70 = .ok (.iaload, 1) := by decide +kernel
theorem dX11_laid_71 : decode cX11_laid 71 = .ok (.ireturn, 1) := by decide +kernel
theorem dX11_edits_0 : decode cX11_edits 0 = .ok (.aload_n 0, 1) := by decide +kernel
theorem dX11_edits_1 : decode cX11_edits 1 = .ok (.invokevirtual 156, 3) := by decide +kernel
theorem dX11_edits_4 : decode cX11_edits 4 = .ok (.ifCond .ne 6, 3) := by decide +kernel
theorem dX11_edits_7 : decode cX11_edits 7 = .ok (.bipush (-3), 2) := by decide +kernel
theorem dX11_edits_9 : decode cX11_edits 9 = .ok (.ireturn, 1) := by decide +kernel
theorem dX11_edits_10 : decode cX11_edits 10 = .ok (.iconst 0, 1) := by decide +kernel
theorem dX11_edits_11 : decode cX11_edits 11 = .ok (.istore_n 1, 1) := by decide +kernel
theorem dX11_edits_12 : decode cX11_edits 12 = .ok (.iload_n 1, 1) := by decide +kernel
theorem dX11_edits_13 : decode cX11_edits 13 = .ok (.aload_n 0, 1) := by decide +kernel
theorem dX11_edits_14 : decode cX11_edits 14 = .ok (.getfield 160, 3) := by decide +kernel
theorem dX11_edits_17 : decode cX11_edits 17 = .ok (.if_icmp .gt 141, 3) := by decide +kernel
theorem dX11_edits_20 : decode cX11_edits 20 = .ok (.iconst 0, 1) := by decide +kernel
theorem dX11_edits_21 : decode cX11_edits 21 = .ok (.istore_n 2, 1) := by decide +kernel
theorem dX11_edits_22 : decode cX11_edits 22 = .ok (.iload_n 2, 1) := by decide +kernel
theorem dX11_edits_23 : decode cX11_edits 23 = .ok (.aload_n 0, 1) := by decide +kernel
theorem dX11_edits_24 : decode cX11_edits 24 = .ok (.getfield 150, 3) := by decide +kernel
theorem dX11_edits_27 : decode cX11_edits 27 = .ok (.if_icmp .gt 125, 3) := by decide +kernel
theorem dX11_edits_30 : decode cX11_edits 30 = .ok (.iload_n 1, 1) := by decide +kernel
theorem dX11_edits_31 : decode cX11_edits 31 = .ok (.ifCond .ne 7, 3) := by decide +kernel
theorem dX11_edits_34 : decode cX11_edits 34 = .ok (.iload_n 2, 1) := by decide +kernel
theorem dX11_edits_35 : decode cX11_edits 35 = .ok (.goto 13, 3) := by decide +kernel
theorem dX11_edits_38 : decode cX11_edits 38 = .ok (.iload_n 2, 1) := by decide +kernel
theorem dX11_edits_39 : decode cX11_edits 39 = .ok (.ifCond .ne 7, 3) := by decide +kernel
theorem dX11_edits_42 : decode cX11_edits 42 = .ok (.iload_n 1, 1) := by decide +kernel
theorem dX11_edits_43 : decode cX11_edits 43 = .ok (.goto 5, 3) := by decide +kernel
theorem dX11_edits_46 : decode cX11_edits 46 = .ok (.ldc 119, 2) := by decide +kernel
theorem dX11_edits_48 : decode cX11_edits 48 = .ok (.istore_n 3, 1) := by decide +kernel
theorem dX11_edits_49 : decode cX11_edits 49 = .ok (.iload_n 1, 1) := by decide +kernel
theorem dX11_edits_50 : decode cX11_edits 50 = .ok (.ifCond .le 84, 3) := by decide +kernel
theorem dX11_edits_53 : decode cX11_edits 53 = .ok (.iload_n 2, 1) := by decide +kernel
theorem dX11_edits_54 : decode cX11_edits 54 = .ok (.ifCond .le 80, 3) := by decide +kernel
theorem dX11_edits_57 : decode cX11_edits 57 = .ok (.aload_n 0, 1) := by decide +kernel
theorem dX11_edits_58 : decode cX11_edits 58 = .ok (.getfield 86, 3) := by decide +kernel
theorem dX11_edits_61 : decode cX11_edits 61 = .ok (.bipush 41, 2) := by decide +kernel
theorem dX11_edits_63 : decode cX11_edits 63 = .ok (.iload_n 1, 1) := by decide +kernel
theorem dX11_edits_64 : decode cX11_edits 64 = .ok (.iconst 1, 1) := by decide +kernel
theorem dX11_edits_65 : decode cX11_edits 65 = .ok (.isub, 1) := by decide +kernel
theorem dX11_edits_66 : decode cX11_edits 66 = .ok (.imul, 1) := by decide +kernel
theorem dX11_edits_67 : decode cX11_edits 67 = .ok (.iload_n 2, 1) := by decide +kernel
theorem dX11_edits_68 : decode cX11_edits 68 = .ok (.iadd, 1) := by decide +kernel
theorem dX11_edits_69 : decode cX11_edits 69 = .ok (.iaload, 1) := by decide +kernel
theorem dX11_edits_70 : decode cX11_edits 70 = .ok (.aload_n 0, 1) := by decide +kernel
theorem dX11_edits_71 : decode cX11_edits 71 = .ok (.getfield 86, 3) := by decide +kernel
theorem dX11_edits_74 : decode cX11_edits 74 = .ok (.bipush 41, 2) := by decide +kernel
theorem dX11_edits_76 : decode cX11_edits 76 = .ok (.iload_n 1, 1) := by decide +kernel
theorem dX11_edits_77 : decode cX11_edits 77 = .ok (.imul, 1) := by decide +kernel
theorem dX11_edits_78 : decode cX11_edits 78 = .ok (.iload_n 2, 1) := by decide +kernel
theorem dX11_edits_79 : decode cX11_edits 79 = .ok (.iadd, 1) := by decide +kernel
theorem dX11_edits_80 : decode cX11_edits 80 = .ok (.iconst 1, 1) := by decide +kernel
theorem dX11_edits_81 : decode cX11_edits 81 = .ok (.isub, 1) := by decide +kernel
theorem dX11_edits_82 : decode cX11_edits 82 = .ok (.iaload, 1) := by decide +kernel
theorem dX11_edits_83 : decode cX11_edits 83 = .ok (.invokestatic 120, 3) := by decide +kernel
theorem dX11_edits_86 : decode cX11_edits 86 = .ok (.iconst 1, 1) := by decide +kernel
theorem dX11_edits_87 : decode cX11_edits 87 = .ok (.iadd, 1) := by decide +kernel
theorem dX11_edits_88 : decode cX11_edits 88 = .ok (.istore_n 3, 1) := by decide +kernel
theorem dX11_edits_89 : decode cX11_edits 89 = .ok (.iload_n 3, 1) := by decide +kernel
theorem dX11_edits_90 : decode cX11_edits 90 = .ok (.aload_n 0, 1) := by decide +kernel
theorem dX11_edits_91 : decode cX11_edits 91 = .ok (.getfield 86, 3) := by decide +kernel
theorem dX11_edits_94 : decode cX11_edits 94 = .ok (.bipush 41, 2) := by decide +kernel
theorem dX11_edits_96 : decode cX11_edits 96 = .ok (.iload_n 1, 1) := by decide +kernel
theorem dX11_edits_97 : decode cX11_edits 97 = .ok (.iconst 1, 1) := by decide +kernel
theorem dX11_edits_98 : decode cX11_edits 98 = .ok (.isub, 1) := by decide +kernel
theorem dX11_edits_99 : decode cX11_edits 99 = .ok (.imul, 1) := by decide +kernel
theorem dX11_edits_100 : decode cX11_edits 100 = .ok (.iload_n 2, 1) := by decide +kernel
theorem dX11_edits_101 : decode cX11_edits 101 = .ok (.iadd, 1) := by decide +kernel
theorem dX11_edits_102 : decode cX11_edits 102 = .ok (.iconst 1, 1) := by decide +kernel
theorem dX11_edits_103 : decode cX11_edits 103 = .ok (.isub, 1) := by decide +kernel
theorem dX11_edits_104 : decode cX11_edits 104 = .ok (.iaload, 1) := by decide +kernel
theorem dX11_edits_105 : decode cX11_edits 105 = .ok (.aload_n 0, 1) := by decide +kernel
theorem dX11_edits_106 : decode cX11_edits 106 = .ok (.getfield 32, 3) := by decide +kernel
theorem dX11_edits_109 : decode cX11_edits 109 = .ok (.iload_n 1, 1) := by decide +kernel
theorem dX11_edits_110 : decode cX11_edits 110 = .ok (.iconst 1, 1) := by decide +kernel
theorem dX11_edits_111 : decode cX11_edits 111 = .ok (.isub, 1) := by decide +kernel
theorem dX11_edits_112 : decode cX11_edits 112 = .ok (.iaload, 1) := by decide +kernel
theorem dX11_edits_113 : decode cX11_edits 113 = .ok (.aload_n 0, 1) := by decide +kernel
theorem dX11_edits_114 : decode cX11_edits 114 = .ok (.getfield 74, 3) := by decide +kernel
theorem dX11_edits_117 : decode cX11_edits 117 = .ok (.iload_n 2, 1) := by decide +kernel
theorem dX11_edits_118 : decode cX11_edits 118 = .ok (.iconst 1, 1) := by decide +kernel
theorem dX11_edits_119 : decode cX11_edits 119 = .ok (.isub, 1) := by decide +kernel
theorem dX11_edits_120 : decode cX11_edits 120 = .ok (.iaload, 1) := by decide +kernel
theorem dX11_edits_121 : decode cX11_edits 121 = .ok (.if_icmp .ne 7, 3) := by decide +kernel
theorem dX11_edits_124 : decode cX11_edits 124 = .ok (.iconst 0, 1) := by decide +kernel
theorem dX11_edits_125 : decode cX11_edits 125 = .ok (.goto 4, 3) := by decide +kernel
theorem dX11_edits_128 : decode cX11_edits 128 = .ok (.iconst 1, 1) := by decide +kernel
theorem dX11_edits_129 : decode cX11_edits 129 = .ok (.iadd, 1) := by decide +kernel
theorem dX11_edits_130 : decode cX11_edits 130 = .ok (.invokestatic 120, 3) := by decide +kernel
theorem dX11_edits_133 : decode cX11_edits 133 = .ok (.istore_n 3, 1) := by decide +kernel
theorem dX11_edits_134 : decode cX11_edits 134 = .ok (.aload_n 0, 1) := by decide +kernel
theorem dX11_edits_135 : decode cX11_edits 135 = .ok (.getfield 86, 3) := by decide +kernel
theorem dX11_edits_138 : decode cX11_edits 138 = .ok (.bipush 41, 2) := by decide +kernel
theorem dX11_edits_140 : decode cX11_edits 140 = .ok (.iload_n 1, 1) := by decide +kernel
theorem dX11_edits_141 : decode cX11_edits 141 = .ok (.imul, 1) := by decide +kernel
theorem dX11_edits_142 : decode cX11_edits 142 = .ok (.iload_n 2, 1) := by decide +kernel
theorem dX11_edits_143 : decode cX11_edits 143 = .ok (.iadd, 1) := by decide +kernel
theorem dX11_edits_144 : decode cX11_edits 144 = .ok (.iload_n 3, 1) := by decide +kernel
theorem dX11_edits_145 : decode cX11_edits 145 = .ok (.iastore, 1) := by decide +kernel
theorem dX11_edits_146 : decode cX11_edits 146 = .ok (.iinc 2 1, 3) := by decide +kernel
theorem dX11_edits_149 : decode cX11_edits 149 = .ok (.goto (-127), 3) := by decide +kernel
theorem dX11_edits_152 : decode cX11_edits 152 = .ok (.iinc 1 1, 3) := by decide +kernel
theorem dX11_edits_155 : decode cX11_edits 155 = .ok (.goto (-143), 3) := by decide +kernel
theorem dX11_edits_158 : decode cX11_edits 158 = .ok (.aload_n 0, 1) := by decide +kernel
theorem dX11_edits_159 : decode cX11_edits 159 = .ok (.getfield 86, 3) := by decide +kernel
theorem dX11_edits_162 : decode cX11_edits 162 = .ok (.bipush 41, 2) := by decide +kernel
theorem dX11_edits_164 : decode cX11_edits 164 = .ok (.aload_n 0, 1) := by decide +kernel
theorem dX11_edits_165 : decode cX11_edits 165 = .ok (.getfield 160, 3) := by decide +kernel
theorem dX11_edits_168 : decode cX11_edits 168 = .ok (.imul, 1) := by decide +kernel
theorem dX11_edits_169 : decode cX11_edits 169 = .ok (.aload_n 0, 1) := by decide +kernel
theorem dX11_edits_170 : decode cX11_edits 170 = .ok (.getfield 150, 3) := by decide +kernel
theorem dX11_edits_173 : decode cX11_edits 173 = .ok (.iadd, 1) := by decide +kernel
theorem dX11_edits_174 : decode cX11_edits 174 = .ok (.iaload, 1) := by decide +kernel
theorem dX11_edits_175 : decode cX11_edits 175 = .ok (.ireturn, 1) := by decide +kernel
theorem dX11_teach_0 : decode cX11_teach 0 = .ok (.aload_n 0, 1) := by decide +kernel
theorem dX11_teach_1 : decode cX11_teach 1 = .ok (.getfield 96, 3) := by decide +kernel
theorem dX11_teach_4 : decode cX11_teach 4 = .ok (.ifCond .ne 6, 3) := by decide +kernel
theorem dX11_teach_7 : decode cX11_teach 7 = .ok (.bipush (-3), 2) := by decide +kernel
theorem dX11_teach_9 : decode cX11_teach 9 = .ok (.ireturn, 1) := by decide +kernel
theorem dX11_teach_10 : decode cX11_teach 10 = .ok (.aload_n 0, 1) := by decide +kernel
theorem dX11_teach_11 : decode cX11_teach 11 = .ok (.getfield 179, 3) := by decide +kernel
theorem dX11_teach_14 : decode cX11_teach 14 = .ok (.bipush 16, 2) := by decide +kernel
theorem dX11_teach_16 : decode cX11_teach 16 = .ok (.if_icmp .ne 79, 3) := by decide +kernel
theorem dX11_teach_19 : decode cX11_teach 19 = .ok (.iconst 1, 1) := by decide +kernel
theorem dX11_teach_20 : decode cX11_teach 20 = .ok (.istore_n 1, 1) := by decide +kernel
theorem dX11_teach_21 : decode cX11_teach 21 = .ok (.iload_n 1, 1) := by decide +kernel
theorem dX11_teach_22 : decode cX11_teach 22 = .ok (.bipush 16, 2) := by decide +kernel
theorem dX11_teach_24 : decode cX11_teach 24 = .ok (.if_icmp .ge 61, 3) := by decide +kernel
theorem dX11_teach_27 : decode cX11_teach 27 = .ok (.aload_n 0, 1) := by decide +kernel
theorem dX11_teach_28 : decode cX11_teach 28 = .ok (.getfield 47, 3) := by decide +kernel
theorem dX11_teach_31 : decode cX11_teach 31 = .ok (.iload_n 1, 1) := by decide +kernel
theorem dX11_teach_32 : decode cX11_teach 32 = .ok (.iconst 1, 1) := by decide +kernel
theorem dX11_teach_33 : decode cX11_teach 33 = .ok (.isub, 1) := by decide +kernel
theorem dX11_teach_34 : decode cX11_teach 34 = .ok (.aload_n 0, 1) := by decide +kernel
theorem dX11_teach_35 : decode cX11_teach 35 = .ok (.getfield 47, 3) := by decide +kernel
theorem dX11_teach_38 : decode cX11_teach 38 = .ok (.iload_n 1, 1) := by decide +kernel
theorem dX11_teach_39 : decode cX11_teach 39 = .ok (.iaload, 1) := by decide +kernel
theorem dX11_teach_40 : decode cX11_teach 40 = .ok (.iastore, 1) := by decide +kernel
theorem dX11_teach_41 : decode cX11_teach 41 = .ok (.iconst 0, 1) := by decide +kernel
theorem dX11_teach_42 : decode cX11_teach 42 = .ok (.istore_n 2, 1) := by decide +kernel
theorem dX11_teach_43 : decode cX11_teach 43 = .ok (.iload_n 2, 1) := by decide +kernel
theorem dX11_teach_44 : decode cX11_teach 44 = .ok (.bipush 40, 2) := by decide +kernel
theorem dX11_teach_46 : decode cX11_teach 46 = .ok (.if_icmp .ge 33, 3) := by decide +kernel
theorem dX11_teach_49 : decode cX11_teach 49 = .ok (.aload_n 0, 1) := by decide +kernel
theorem dX11_teach_50 : decode cX11_teach 50 = .ok (.getfield 50, 3) := by decide +kernel
theorem dX11_teach_53 : decode cX11_teach 53 = .ok (.bipush 40, 2) := by decide +kernel
theorem dX11_teach_55 : decode cX11_teach 55 = .ok (.iload_n 1, 1) := by decide +kernel
theorem dX11_teach_56 : decode cX11_teach 56 = .ok (.iconst 1, 1) := by decide +kernel
theorem dX11_teach_57 : decode cX11_teach 57 = .ok (.isub, 1) := by decide +kernel
theorem dX11_teach_58 : decode cX11_teach 58 = .ok (.imul, 1) := by decide +kernel
theorem dX11_teach_59 : decode cX11_teach 59 = .ok (.iload_n 2, 1) := by decide +kernel
theorem dX11_teach_60 : decode cX11_teach 60 = .ok (.iadd, 1) := by decide +kernel
theorem dX11_teach_61 : decode cX11_teach 61 = .ok (.aload_n 0, 1) := by decide +kernel
theorem dX11_teach_62 : decode cX11_teach 62 = .ok (.getfield 50, 3) := by decide +kernel
theorem dX11_teach_65 : decode cX11_teach 65 = .ok (.bipush 40, 2) := by decide +kernel
theorem dX11_teach_67 : decode cX11_teach 67 = .ok (.iload_n 1, 1) := by decide +kernel
theorem dX11_teach_68 : decode cX11_teach 68 = .ok (.imul, 1) := by decide +kernel
theorem dX11_teach_69 : decode cX11_teach 69 = .ok (.iload_n 2, 1) := by decide +kernel
theorem dX11_teach_70 : decode cX11_teach 70 = .ok (.iadd, 1) := by decide +kernel
theorem dX11_teach_71 : decode cX11_teach 71 = .ok (.iaload, 1) := by decide +kernel
theorem dX11_teach_72 : decode cX11_teach 72 = .ok (.iastore, 1) := by decide +kernel
theorem dX11_teach_73 : decode cX11_teach 73 = .ok (.iinc 2 1, 3) := by decide +kernel
theorem dX11_teach_76 : decode cX11_teach 76 = .ok (.goto (-33), 3) := by decide +kernel
theorem dX11_teach_79 : decode cX11_teach 79 = .ok (.iinc 1 1, 3) := by decide +kernel
theorem dX11_teach_82 : decode cX11_teach 82 = .ok (.goto (-61), 3) := by decide +kernel
theorem dX11_teach_85 : decode cX11_teach 85 = .ok (.aload_n 0, 1) := by decide +kernel
theorem dX11_teach_86 : decode cX11_teach 86 = .ok (.dup, 1) := by decide +kernel
theorem dX11_teach_87 : decode cX11_teach 87 = .ok (.getfield 179, 3) := by decide +kernel
theorem dX11_teach_90 : decode cX11_teach 90 = .ok (.iconst 1, 1) := by decide +kernel
theorem dX11_teach_91 : decode cX11_teach 91 = .ok (.isub, 1) := by decide +kernel
theorem dX11_teach_92 : decode cX11_teach 92 = .ok (.putfield 179, 3) := by decide +kernel
theorem dX11_teach_95 : decode cX11_teach 95 = .ok (.iconst 0, 1) := by decide +kernel
theorem dX11_teach_96 : decode cX11_teach 96 = .ok (.istore_n 1, 1) := by decide +kernel
theorem dX11_teach_97 : decode cX11_teach 97 = .ok (.iconst 0, 1) := by decide +kernel
theorem dX11_teach_98 : decode cX11_teach 98 = .ok (.istore_n 2, 1) := by decide +kernel
theorem dX11_teach_99 : decode cX11_teach 99 = .ok (.iload_n 2, 1) := by decide +kernel
theorem dX11_teach_100 : decode cX11_teach 100 = .ok (.aload_n 0, 1) := by decide +kernel
theorem dX11_teach_101 : decode cX11_teach 101 = .ok (.getfield 93, 3) := by decide +kernel
theorem dX11_teach_104 : decode cX11_teach 104 = .ok (.if_icmp .ge 64, 3) := by decide +kernel
theorem dX11_teach_107 : decode cX11_teach 107 = .ok (.aload_n 0, 1) := by decide +kernel
theorem dX11_teach_108 : decode cX11_teach 108 = .ok (.getfield 7, 3) := by decide +kernel
theorem dX11_teach_111 : decode cX11_teach 111 = .ok (.iload_n 2, 1) := by decide +kernel
theorem dX11_teach_112 : decode cX11_teach 112 = .ok (.iaload, 1) := by decide +kernel
theorem dX11_teach_113 : decode cX11_teach 113 = .ok (.iconst (-1), 1) := by decide +kernel
theorem dX11_teach_114 : decode cX11_teach 114 = .ok (.if_icmp .eq 48, 3) := by decide +kernel
theorem dX11_teach_117 : decode cX11_teach 117 = .ok (.bipush 8, 2) := by decide +kernel
theorem dX11_teach_119 : decode cX11_teach 119 = .ok (.aload_n 0, 1) := by decide +kernel
theorem dX11_teach_120 : decode cX11_teach 120 = .ok (.getfield 35, 3) := by decide +kernel
theorem dX11_teach_123 : decode cX11_teach 123 = .ok (.iload_n 2, 1) := by decide +kernel
theorem dX11_teach_124 : decode cX11_teach 124 = .ok (.iaload, 1) := by decide +kernel
theorem dX11_teach_125 : decode cX11_teach 125 = .ok (.imul, 1) := by decide +kernel
theorem dX11_teach_126 : decode cX11_teach 126 = .ok (.aload_n 0, 1) := by decide +kernel
theorem dX11_teach_127 : decode cX11_teach 127 = .ok (.getfield 7, 3) := by decide +kernel
theorem dX11_teach_130 : decode cX11_teach 130 = .ok (.iload_n 2, 1) := by decide +kernel
theorem dX11_teach_131 : decode cX11_teach 131 = .ok (.iaload, 1) := by decide +kernel
theorem dX11_teach_132 : decode cX11_teach 132 = .ok (.iadd, 1) := by decide +kernel
theorem dX11_teach_133 : decode cX11_teach 133 = .ok (.istore_n 3, 1) := by decide +kernel
theorem dX11_teach_134 : decode cX11_teach 134 = .ok (.aload_n 0, 1) := by decide +kernel
theorem dX11_teach_135 : decode cX11_teach 135 = .ok (.getfield 44, 3) := by decide +kernel
theorem dX11_teach_138 : decode cX11_teach 138 = .ok (.iload_n 3, 1) := by decide +kernel
theorem dX11_teach_139 : decode cX11_teach 139 = .ok (.dup2, 1) := by decide +kernel
theorem dX11_teach_140 : decode cX11_teach 140 = .ok (.iaload, 1) := by decide +kernel
theorem dX11_teach_141 : decode cX11_teach 141 = .ok (.iconst 1, 1) := by decide +kernel
theorem dX11_teach_142 : decode cX11_teach 142 = .ok (.iadd, 1) := by decide +kernel
theorem dX11_teach_143 : decode cX11_teach 143 = .ok (.iastore, 1) := by decide +kernel
theorem dX11_teach_144 : decode cX11_teach 144 = .ok (.aload_n 0, 1) := by decide +kernel
theorem dX11_teach_145 : decode cX11_teach 145 = .ok (.getfield 50, 3) := by decide +kernel
theorem dX11_teach_148 : decode cX11_teach 148 = .ok (.bipush 40, 2) := by decide +kernel
theorem dX11_teach_150 : decode cX11_teach 150 = .ok (.aload_n 0, 1) := by decide +kernel
theorem dX11_teach_151 : decode cX11_teach 151 = .ok (.getfield 179, 3) := by decide +kernel
theorem dX11_teach_154 : decode cX11_teach 154 = .ok (.imul, 1) := by decide +kernel
theorem dX11_teach_155 : decode cX11_teach 155 = .ok (.iload_n 1, 1) := by decide +kernel
theorem dX11_teach_156 : decode cX11_teach 156 = .ok (.iadd, 1) := by decide +kernel
theorem dX11_teach_157 : decode cX11_teach 157 = .ok (.iload_n 3, 1) := by decide +kernel
theorem dX11_teach_158 : decode cX11_teach 158 = .ok (.iastore, 1) := by decide +kernel
theorem dX11_teach_159 : decode cX11_teach 159 = .ok (.iinc 1 1, 3) := by decide +kernel
theorem dX11_teach_162 : decode cX11_teach 162 = .ok (.iinc 2 1, 3) := by decide +kernel
theorem dX11_teach_165 : decode cX11_teach 165 = .ok (.goto (-66), 3) := by decide +kernel
theorem dX11_teach_168 : decode cX11_teach 168 = .ok (.aload_n 0, 1) := by decide +kernel
theorem dX11_teach_169 : decode cX11_teach 169 = .ok (.getfield 47, 3) := by decide +kernel
theorem dX11_teach_172 : decode cX11_teach 172 = .ok (.aload_n 0, 1) := by decide +kernel
theorem dX11_teach_173 : decode cX11_teach 173 = .ok (.getfield 179, 3) := by decide +kernel
theorem dX11_teach_176 : decode cX11_teach 176 = .ok (.iload_n 1, 1) := by decide +kernel
theorem dX11_teach_177 : decode cX11_teach 177 = .ok (.iastore, 1) := by decide +kernel
theorem dX11_teach_178 : decode cX11_teach 178 = .ok (.aload_n 0, 1) := by decide +kernel
theorem dX11_teach_179 : decode cX11_teach 179 = .ok (.dup, 1) := by decide +kernel
theorem dX11_teach_180 : decode cX11_teach 180 = .ok (.getfield 179, 3) := by decide +kernel
theorem dX11_teach_183 : decode cX11_teach 183 = .ok (.iconst 1, 1) := by decide +kernel
theorem dX11_teach_184 : decode cX11_teach 184 = .ok (.iadd, 1) := by decide +kernel
theorem dX11_teach_185 : decode cX11_teach 185 = .ok (.putfield 179, 3) := by decide +kernel
theorem dX11_teach_188 : decode cX11_teach 188 = .ok (.iload_n 1, 1) := by decide +kernel
theorem dX11_teach_189 : decode cX11_teach 189 = .ok (.ireturn, 1) := by decide +kernel
theorem dX11_unteach_0 : decode cX11_unteach 0 = .ok (.aload_n 0, 1) := by decide +kernel
theorem dX11_unteach_1 : decode cX11_unteach 1 = .ok (.getfield 179, 3) := by decide +kernel
theorem dX11_unteach_4 : decode cX11_unteach 4 = .ok (.ifCond .ne 6, 3) := by decide +kernel
theorem dX11_unteach_7 : decode cX11_unteach 7 = .ok (.bipush (-3), 2) := by decide +kernel
theorem dX11_unteach_9 : decode cX11_unteach 9 = .ok (.ireturn, 1) := by decide +kernel
theorem dX11_unteach_10 : decode cX11_unteach 10 = .ok (.aload_n 0, 1) := by decide +kernel
theorem dX11_unteach_11 : decode cX11_unteach 11 = .ok (.dup, 1) := by decide +kernel
theorem dX11_unteach_12 : decode cX11_unteach 12 = .ok (.getfield 179, 3) := by decide +kernel
theorem dX11_unteach_15 : decode cX11_unteach 15 = .ok (.iconst 1, 1) := by decide +kernel
theorem dX11_unteach_16 : decode cX11_unteach 16 = .ok (.isub, 1) := by decide +kernel
theorem dX11_unteach_17 : decode cX11_unteach 17 = .ok (.putfield 179, 3) := by decide +kernel
theorem dX11_unteach_20 : decode cX11_unteach 20 = .ok (.iconst 0, 1) := by decide +kernel
theorem dX11_unteach_21 : decode cX11_unteach 21 = .ok (.istore_n 1, 1) := by decide +kernel
theorem dX11_unteach_22 : decode cX11_unteach 22 = .ok (.iload_n 1, 1) := by decide +kernel
theorem dX11_unteach_23 : decode cX11_unteach 23 = .ok (.aload_n 0, 1) := by decide +kernel
theorem dX11_unteach_24 : decode cX11_unteach 24 = .ok (.getfield 47, 3) := by decide +kernel
theorem dX11_unteach_27 : decode cX11_unteach 27 = .ok (.aload_n 0, 1) := by decide +kernel
theorem dX11_unteach_28 : decode cX11_unteach 28 = .ok (.getfield 179, 3) := by decide +kernel
theorem dX11_unteach_31 : decode cX11_unteach 31 = .ok (.iaload, 1) := by decide +kernel
theorem dX11_unteach_32 : decode cX11_unteach 32 = .ok (.if_icmp .ge 32, 3) := by decide +kernel
theorem dX11_unteach_35 : decode cX11_unteach 35 = .ok (.aload_n 0, 1) := by decide +kernel
theorem dX11_unteach_36 : decode cX11_unteach 36 = .ok (.getfield 44, 3) := by decide +kernel
theorem dX11_unteach_39 : decode cX11_unteach 39 = .ok (.aload_n 0, 1) := by decide +kernel
theorem dX11_unteach_40 : decode cX11_unteach 40 = .ok (.getfield 50, 3) := by decide +kernel
theorem dX11_unteach_43 : decode cX11_unteach 43 = .ok (.bipush 40, 2) := by decide +kernel
theorem dX11_unteach_45 : decode cX11_unteach 45 = .ok (.aload_n 0, 1) := by decide +kernel
theorem dX11_unteach_46 : decode cX11_unteach 46 = .ok (.getfield 179, 3) := by decide +kernel
theorem dX11_unteach_49 : decode cX11_unteach 49 = .ok (.imul, 1) := by decide +kernel
theorem dX11_unteach_50 : decode cX11_unteach 50 = .ok (.iload_n 1, 1) := by decide +kernel
theorem dX11_unteach_51 : decode cX11_unteach 51 = .ok (.iadd, 1) := by decide +kernel
theorem dX11_unteach_52 : decode cX11_unteach 52 = .ok (.iaload, 1) := by decide +kernel
theorem dX11_unteach_53 : decode cX11_unteach 53 = .ok (.dup2, 1) := by decide +kernel
theorem dX11_unteach_54 : decode cX11_unteach 54 = .ok (.iaload, 1) := by decide +kernel
theorem dX11_unteach_55 : decode cX11_unteach 55 = .ok (.iconst 1, 1) := by decide +kernel
theorem dX11_unteach_56 : decode cX11_unteach 56 = .ok (.isub, 1) := by decide +kernel
theorem dX11_unteach_57 : decode cX11_unteach 57 = .ok (.iastore, 1) := by decide +kernel
theorem dX11_unteach_58 : decode cX11_unteach 58 = .ok (.iinc 1 1, 3) := by decide +kernel
theorem dX11_unteach_61 : decode cX11_unteach 61 = .ok (.goto (-39), 3) := by decide +kernel
theorem dX11_unteach_64 : decode cX11_unteach 64 = .ok (.aload_n 0, 1) := by decide +kernel
theorem dX11_unteach_65 : decode cX11_unteach 65 = .ok (.getfield 47, 3) := by decide +kernel
theorem dX11_unteach_68 : decode cX11_unteach 68 = .ok (.aload_n 0, 1) := by decide +kernel
theorem dX11_unteach_69 : decode cX11_unteach 69 = .ok (.getfield 179, 3) := by decide +kernel
theorem dX11_unteach_72 : decode cX11_unteach 72 = .ok (.iaload, 1) := by decide +kernel
theorem dX11_unteach_73 : decode cX11_unteach 73 = .ok (.ireturn, 1) := by decide +kernel
theorem dX11_taught_0 : decode cX11_taught 0 = .ok (.iload_n 1, 1) := by decide +kernel
theorem dX11_taught_1 : decode cX11_taught 1 = .ok (.iconst 0, 1) := by decide +kernel
theorem dX11_taught_2 : decode cX11_taught 2 = .ok (.iconst 5, 1) := by decide +kernel
theorem dX11_taught_3 : decode cX11_taught 3 = .ok (.invokestatic 89, 3) := by decide +kernel
theorem dX11_taught_6 : decode cX11_taught 6 = .ok (.ifCond .eq 27, 3) := by decide +kernel
theorem dX11_taught_9 : decode cX11_taught 9 = .ok (.iload_n 2, 1) := by decide +kernel
theorem dX11_taught_10 : decode cX11_taught 10 = .ok (.iconst 0, 1) := by decide +kernel
theorem dX11_taught_11 : decode cX11_taught 11 = .ok (.bipush 7, 2) := by decide +kernel
theorem dX11_taught_13 : decode cX11_taught 13 = .ok (.invokestatic 89, 3) := by decide +kernel
theorem dX11_taught_16 : decode cX11_taught 16 = .ok (.ifCond .eq 17, 3) := by decide +kernel
theorem dX11_taught_19 : decode cX11_taught 19 = .ok (.aload_n 0, 1) := by decide +kernel
theorem dX11_taught_20 : decode cX11_taught 20 = .ok (.getfield 44, 3) := by decide +kernel
theorem dX11_taught_23 : decode cX11_taught 23 = .ok (.bipush 8, 2) := by decide +kernel
theorem dX11_taught_25 : decode cX11_taught 25 = .ok (.iload_n 1, 1) := by decide +kernel
theorem dX11_taught_26 : decode cX11_taught 26 = .ok (.imul, 1) := by decide +kernel
theorem dX11_taught_27 : decode cX11_taught 27 = .ok (.iload_n 2, 1) := by decide +kernel
theorem dX11_taught_28 : decode cX11_taught 28 = .ok (.iadd, 1) := by decide +kernel
theorem dX11_taught_29 : decode cX11_taught 29 = .ok (.iaload, 1) := by decide +kernel
theorem dX11_taught_30 : decode cX11_taught 30 = .ok (.goto 5, 3) := by decide +kernel
theorem dX11_taught_33 : decode cX11_taught 33 = .ok (.bipush (-2), 2) := by decide +kernel
theorem dX11_taught_35 : decode cX11_taught 35 = .ok (.ireturn, 1) := by decide +kernel
theorem dX11_renew_0 : decode cX11_renew 0 = .ok (.iconst 0, 1) := by decide +kernel
theorem dX11_renew_1 : decode cX11_renew 1 = .ok (.istore_n 1, 1) := by decide +kernel
theorem dX11_renew_2 : decode cX11_renew 2 = .ok (.iconst 0, 1) := by decide +kernel
theorem dX11_renew_3 : decode cX11_renew 3 = .ok (.istore_n 2, 1) := by decide +kernel
theorem dX11_renew_4 : decode cX11_renew 4 = .ok (.iload_n 2, 1) := by decide +kernel
theorem dX11_renew_5 : decode cX11_renew 5 = .ok (.bipush 6, 2) := by decide +kernel
theorem dX11_renew_7 : decode cX11_renew 7 = .ok (.if_icmp .ge 105, 3) := by decide +kernel
theorem dX11_renew_10 : decode cX11_renew 10 = .ok (.iconst 0, 1) := by decide +kernel
theorem dX11_renew_11 : decode cX11_renew 11 = .ok (.istore_n 3, 1) := by decide +kernel
theorem dX11_renew_12 : decode cX11_renew 12 = .ok (.iconst 0, 1) := by decide +kernel
theorem dX11_renew_13 : decode cX11_renew 13 = .ok (.istore 4, 2) := by decide +kernel
theorem dX11_renew_15 : decode cX11_renew 15 = .ok (.iload 4, 2) := by decide +kernel
theorem dX11_renew_17 : decode cX11_renew 17 = .ok (.bipush 8, 2) := by decide +kernel
theorem dX11_renew_19 : decode cX11_renew 19 = .ok (.if_icmp .ge 24, 3) := by decide +kernel
theorem dX11_renew_22 : decode cX11_renew 22 = .ok (.iload_n 3, 1) := by decide +kernel
theorem dX11_renew_23 : decode cX11_renew 23 = .ok (.aload_n 0, 1) := by decide +kernel
theorem dX11_renew_24 : decode cX11_renew 24 = .ok (.getfield 44, 3) := by decide +kernel
theorem dX11_renew_27 : decode cX11_renew 27 = .ok (.bipush 8, 2) := by decide +kernel
theorem dX11_renew_29 : decode cX11_renew 29 = .ok (.iload_n 2, 1) := by decide +kernel
theorem dX11_renew_30 : decode cX11_renew 30 = .ok (.imul, 1) := by decide +kernel
theorem dX11_renew_31 : decode cX11_renew 31 = .ok (.iload 4, 2) := by decide +kernel
theorem dX11_renew_33 : decode cX11_renew 33 = .ok (.iadd, 1) := by decide +kernel
theorem dX11_renew_34 : decode cX11_renew 34 = .ok (.iaload, 1) := by decide +kernel
theorem dX11_renew_35 : decode cX11_renew 35 = .ok (.iadd, 1) := by decide +kernel
theorem dX11_renew_36 : decode cX11_renew 36 = .ok (.istore_n 3, 1) := by decide +kernel
theorem dX11_renew_37 : decode cX11_renew 37 = .ok (.iinc 4 1, 3) := by decide +kernel
theorem dX11_renew_40 : decode cX11_renew 40 = .ok (.goto (-25), 3) := by decide +kernel
theorem dX11_renew_43 : decode cX11_renew 43 = .ok (.iconst 0, 1) := by decide +kernel
theorem dX11_renew_44 : decode cX11_renew 44 = .ok (.istore 4, 2) := by decide +kernel
theorem dX11_renew_46 : decode cX11_renew 46 = .ok (.iload 4, 2) := by decide +kernel
theorem dX11_renew_48 : decode cX11_renew 48 = .ok (.bipush 8, 2) := by decide +kernel
theorem dX11_renew_50 : decode cX11_renew 50 = .ok (.if_icmp .ge 44, 3) := by decide +kernel
theorem dX11_renew_53 : decode cX11_renew 53 = .ok (.iload_n 3, 1) := by decide +kernel
theorem dX11_renew_54 : decode cX11_renew 54 = .ok (.ifCond .le 40, 3) := by decide +kernel
theorem dX11_renew_57 : decode cX11_renew 57 = .ok (.aload_n 0, 1) := by decide +kernel
theorem dX11_renew_58 : decode cX11_renew 58 = .ok (.getfield 13, 3) := by decide +kernel
theorem dX11_renew_61 : decode cX11_renew 61 = .ok (.bipush 8, 2) := by decide +kernel
theorem dX11_renew_63 : decode cX11_renew 63 = .ok (.iload_n 2, 1) := by decide +kernel
theorem dX11_renew_64 : decode cX11_renew 64 = .ok (.imul, 1) := by decide +kernel
theorem dX11_renew_65 : decode cX11_renew 65 = .ok (.iload 4, 2) := by decide +kernel
theorem dX11_renew_67 : decode cX11_renew 67 = .ok (.iadd, 1) := by decide +kernel
theorem dX11_renew_68 : decode cX11_renew 68 = .ok (.bipush 50, 2) := by decide +kernel
theorem dX11_renew_70 : decode cX11_renew 70 = .ok (.iload_n 3, 1) := by decide +kernel
theorem dX11_renew_71 : decode cX11_renew 71 = .ok (.aload_n 0, 1) := by decide +kernel
theorem dX11_renew_72 : decode cX11_renew 72 = .ok (.getfield 44, 3) := by decide +kernel
theorem dX11_renew_75 : decode cX11_renew 75 = .ok (.bipush 8, 2) := by decide +kernel
theorem dX11_renew_77 : decode cX11_renew 77 = .ok (.iload_n 2, 1) := by decide +kernel
theorem dX11_renew_78 : decode cX11_renew 78 = .ok (.imul, 1) := by decide +kernel
theorem dX11_renew_79 : decode cX11_renew 79 = .ok (.iload 4, 2) := by decide +kernel
theorem dX11_renew_81 : decode cX11_renew 81 = .ok (.iadd, 1) := by decide +kernel
theorem dX11_renew_82 : decode cX11_renew 82 = .ok (.iaload, 1) := by decide +kernel
theorem dX11_renew_83 : decode cX11_renew 83 = .ok (.isub, 1) := by decide +kernel
theorem dX11_renew_84 : decode cX11_renew 84 = .ok (.imul, 1) := by decide +kernel
theorem dX11_renew_85 : decode cX11_renew 85 = .ok (.iload_n 3, 1) := by decide +kernel
theorem dX11_renew_86 : decode cX11_renew 86 = .ok (.idiv, 1) := by decide +kernel
theorem dX11_renew_87 : decode cX11_renew 87 = .ok (.iastore, 1) := by decide +kernel
theorem dX11_renew_88 : decode cX11_renew 88 = .ok (.iinc 4 1, 3) := by decide +kernel
theorem dX11_renew_91 : decode cX11_renew 91 = .ok (.goto (-45), 3) := by decide +kernel
theorem dX11_renew_94 : decode cX11_renew 94 = .ok (.iload_n 1, 1) := by decide +kernel
theorem dX11_renew_95 : decode cX11_renew 95 = .ok (.iload_n 3, 1) := by decide +kernel
theorem dX11_renew_96 : decode cX11_renew 96 = .ok (.ifCond .le 7, 3) := by decide +kernel
theorem dX11_renew_99 : decode cX11_renew 99 = .ok (.iconst 1, 1) := by decide +kernel
theorem dX11_renew_100 : decode cX11_renew 100 = .ok (.goto 4, 3) := by decide +kernel
theorem dX11_renew_103 : decode cX11_renew 103 = .ok (.iconst 0, 1) := by decide +kernel
theorem dX11_renew_104 : decode cX11_renew 104 = .ok (.iadd, 1) := by decide +kernel
theorem dX11_renew_105 : decode cX11_renew 105 = .ok (.istore_n 1, 1) := by decide +kernel
theorem dX11_renew_106 : decode cX11_renew 106 = .ok (.iinc 2 1, 3) := by decide +kernel
theorem dX11_renew_109 : decode cX11_renew 109 = .ok (.goto (-105), 3) := by decide +kernel
theorem dX11_renew_112 : decode cX11_renew 112 = .ok (.aload_n 0, 1) := by decide +kernel
theorem dX11_renew_113 : decode cX11_renew 113 = .ok (.iconst 0, 1) := by decide +kernel
theorem dX11_renew_114 : decode cX11_renew 114 = .ok (.putfield 96, 3) := by decide +kernel
theorem dX11_renew_117 : decode cX11_renew 117 = .ok (.iload_n 1, 1) := by decide +kernel
theorem dX11_renew_118 : decode cX11_renew 118 = .ok (.ireturn, 1) := by decide +kernel
theorem dX11_spot_0 : decode cX11_spot 0 = .ok (.aload_n 0, 1) := by decide +kernel
theorem dX11_spot_1 : decode cX11_spot 1 = .ok (.iload_n 1, 1) := by decide +kernel
theorem dX11_spot_2 : decode cX11_spot 2 = .ok (.invokevirtual 111, 3) := by decide +kernel
theorem dX11_spot_5 : decode cX11_spot 5 = .ok (.ifCond .eq 12, 3) := by decide +kernel
theorem dX11_spot_8 : decode cX11_spot 8 = .ok (.iload_n 2, 1) := by decide +kernel
theorem dX11_spot_9 : decode cX11_spot 9 = .ok (.iconst 0, 1) := by decide +kernel
theorem dX11_spot_10 : decode cX11_spot 10 = .ok (.iconst 2, 1) := by decide +kernel
theorem dX11_spot_11 : decode cX11_spot 11 = .ok (.invokestatic 89, 3) := by decide +kernel
theorem dX11_spot_14 : decode cX11_spot 14 = .ok (.ifCond .ne 6, 3) := by decide +kernel
theorem dX11_spot_17 : decode cX11_spot 17 = .ok (.bipush (-2), 2) := by decide +kernel
theorem dX11_spot_19 : decode cX11_spot 19 = .ok (.ireturn, 1) := by decide +kernel
theorem dX11_spot_20 : decode cX11_spot 20 = .ok (.aload_n 0, 1) := by decide +kernel
theorem dX11_spot_21 : decode cX11_spot 21 = .ok (.invokevirtual 137, 3) := by decide +kernel
theorem dX11_spot_24 : decode cX11_spot 24 = .ok (.iconst (-1), 1) := by decide +kernel
theorem dX11_spot_25 : decode cX11_spot 25 = .ok (.istore_n 3, 1) := by decide +kernel
theorem dX11_spot_26 : decode cX11_spot 26 = .ok (.iconst (-1), 1) := by decide +kernel
theorem dX11_spot_27 : decode cX11_spot 27 = .ok (.istore 4, 2) := by decide +kernel
theorem dX11_spot_29 : decode cX11_spot 29 = .ok (.ldc 119, 2) := by decide +kernel
theorem dX11_spot_31 : decode cX11_spot 31 = .ok (.istore 5, 2) := by decide +kernel
theorem dX11_spot_33 : decode cX11_spot 33 = .ok (.iconst 0, 1) := by decide +kernel
theorem dX11_spot_34 : decode cX11_spot 34 = .ok (.istore 6, 2) := by decide +kernel
theorem dX11_spot_36 : decode cX11_spot 36 = .ok (.iload 6, 2) := by decide +kernel
theorem dX11_spot_38 : decode cX11_spot 38 = .ok (.aload_n 0, 1) := by decide +kernel
theorem dX11_spot_39 : decode cX11_spot 39 = .ok (.getfield 93, 3) := by decide +kernel
theorem dX11_spot_42 : decode cX11_spot 42 = .ok (.if_icmp .ge 96, 3) := by decide +kernel
theorem dX11_spot_45 : decode cX11_spot 45 = .ok (.iload 6, 2) := by decide +kernel
theorem dX11_spot_47 : decode cX11_spot 47 = .ok (.iconst 1, 1) := by decide +kernel
theorem dX11_spot_48 : decode cX11_spot 48 = .ok (.iadd, 1) := by decide +kernel
theorem dX11_spot_49 : decode cX11_spot 49 = .ok (.istore 7, 2) := by decide +kernel
theorem dX11_spot_51 : decode cX11_spot 51 = .ok (.iload 7, 2) := by decide +kernel
theorem dX11_spot_53 : decode cX11_spot 53 = .ok (.aload_n 0, 1) := by decide +kernel
theorem dX11_spot_54 : decode cX11_spot 54 = .ok (.getfield 93, 3) := by decide +kernel
theorem dX11_spot_57 : decode cX11_spot 57 = .ok (.if_icmp .gt 75, 3) := by decide +kernel
theorem dX11_spot_60 : decode cX11_spot 60 = .ok (.iload 7, 2) := by decide +kernel
theorem dX11_spot_62 : decode cX11_spot 62 = .ok (.iload 6, 2) := by decide +kernel
theorem dX11_spot_64 : decode cX11_spot 64 = .ok (.bipush 20, 2) := by decide +kernel
theorem dX11_spot_66 : decode cX11_spot 66 = .ok (.iadd, 1) := by decide +kernel
theorem dX11_spot_67 : decode cX11_spot 67 = .ok (.if_icmp .gt 65, 3) := by decide +kernel
theorem dX11_spot_70 : decode cX11_spot 70 = .ok (.aload_n 0, 1) := by decide +kernel
theorem dX11_spot_71 : decode cX11_spot 71 = .ok (.getfield 62, 3) := by decide +kernel
theorem dX11_spot_74 : decode cX11_spot 74 = .ok (.iload_n 1, 1) := by decide +kernel
theorem dX11_spot_75 : decode cX11_spot 75 = .ok (.iload 6, 2) := by decide +kernel
theorem dX11_spot_77 : decode cX11_spot 77 = .ok (.iload 7, 2) := by decide +kernel
theorem dX11_spot_79 : decode cX11_spot 79 = .ok (.invokestatic 126, 3) := by decide +kernel
theorem dX11_spot_82 : decode cX11_spot 82 = .ok (.iaload, 1) := by decide +kernel
theorem dX11_spot_83 : decode cX11_spot 83 = .ok (.istore 8, 2) := by decide +kernel
theorem dX11_spot_85 : decode cX11_spot 85 = .ok (.iload 8, 2) := by decide +kernel
theorem dX11_spot_87 : decode cX11_spot 87 = .ok (.ldc 119, 2) := by decide +kernel
theorem dX11_spot_89 : decode cX11_spot 89 = .ok (.if_icmp .ge 37, 3) := by decide +kernel
theorem dX11_spot_92 : decode cX11_spot 92 = .ok (.iload_n 3, 1) := by decide +kernel
theorem dX11_spot_93 : decode cX11_spot 93 = .ok (.iconst (-1), 1) := by decide +kernel
theorem dX11_spot_94 : decode cX11_spot 94 = .ok (.if_icmp .eq 21, 3) := by decide +kernel
theorem dX11_spot_97 : decode cX11_spot 97 = .ok (.iload 8, 2) := by decide +kernel
theorem dX11_spot_99 : decode cX11_spot 99 = .ok (.iload 4, 2) := by decide +kernel
theorem dX11_spot_101 : decode cX11_spot 101 = .ok (.iload_n 3, 1) := by decide +kernel
theorem dX11_spot_102 : decode cX11_spot 102 = .ok (.isub, 1) := by decide +kernel
theorem dX11_spot_103 : decode cX11_spot 103 = .ok (.imul, 1) := by decide +kernel
theorem dX11_spot_104 : decode cX11_spot 104 = .ok (.iload 5, 2) := by decide +kernel
theorem dX11_spot_106 : decode cX11_spot 106 = .ok (.iload 7, 2) := by decide +kernel
theorem dX11_spot_108 : decode cX11_spot 108 = .ok (.iload 6, 2) := by decide +kernel
theorem dX11_spot_110 : decode cX11_spot 110 = .ok (.isub, 1) := by decide +kernel
theorem dX11_spot_111 : decode cX11_spot 111 = .ok (.imul, 1) := by decide +kernel
theorem dX11_spot_112 : decode cX11_spot 112 = .ok (.if_icmp .ge 14, 3) := by decide +kernel
theorem dX11_spot_115 : decode cX11_spot 115 = .ok (.iload 6, 2) := by decide +kernel
theorem dX11_spot_117 : decode cX11_spot 117 = .ok (.istore_n 3, 1) := by decide +kernel
theorem dX11_spot_118 : decode cX11_spot 118 = .ok (.iload 7, 2) := by decide +kernel
theorem dX11_spot_120 : decode cX11_spot 120 = .ok (.istore 4, 2) := by decide +kernel
theorem dX11_spot_122 : decode cX11_spot 122 = .ok (.iload 8, 2) := by decide +kernel
theorem dX11_spot_124 : decode cX11_spot 124 = .ok (.istore 5, 2) := by decide +kernel
theorem dX11_spot_126 : decode cX11_spot 126 = .ok (.iinc 7 1, 3) := by decide +kernel
theorem dX11_spot_129 : decode cX11_spot 129 = .ok (.goto (-78), 3) := by decide +kernel
theorem dX11_spot_132 : decode cX11_spot 132 = .ok (.iinc 6 1, 3) := by decide +kernel
theorem dX11_spot_135 : decode cX11_spot 135 = .ok (.goto (-99), 3) := by decide +kernel
theorem dX11_spot_138 : decode cX11_spot 138 = .ok (.iload_n 3, 1) := by decide +kernel
theorem dX11_spot_139 : decode cX11_spot 139 = .ok (.iconst (-1), 1) := by decide +kernel
theorem dX11_spot_140 : decode cX11_spot 140 = .ok (.if_icmp .ne 8, 3) := by decide +kernel
theorem dX11_spot_143 : decode cX11_spot 143 = .ok (.bipush (-3), 2) := by decide +kernel
theorem dX11_spot_145 : decode cX11_spot 145 = .ok (.goto 23, 3) := by decide +kernel
theorem dX11_spot_148 : decode cX11_spot 148 = .ok (.iload_n 2, 1) := by decide +kernel
theorem dX11_spot_149 : decode cX11_spot 149 = .ok (.ifCond .ne 7, 3) := by decide +kernel
theorem dX11_spot_152 : decode cX11_spot 152 = .ok (.iload_n 3, 1) := by decide +kernel
theorem dX11_spot_153 : decode cX11_spot 153 = .ok (.goto 15, 3) := by decide +kernel
theorem dX11_spot_156 : decode cX11_spot 156 = .ok (.iload_n 2, 1) := by decide +kernel
theorem dX11_spot_157 : decode cX11_spot 157 = .ok (.iconst 1, 1) := by decide +kernel
theorem dX11_spot_158 : decode cX11_spot 158 = .ok (.if_icmp .ne 8, 3) := by decide +kernel
theorem dX11_spot_161 : decode cX11_spot 161 = .ok (.iload 4, 2) := by decide +kernel
theorem dX11_spot_163 : decode cX11_spot 163 = .ok (.goto 5, 3) := by decide +kernel
theorem dX11_spot_166 : decode cX11_spot 166 = .ok (.iload 5, 2) := by decide +kernel
theorem dX11_spot_168 : decode cX11_spot 168 = .ok (.ireturn, 1) := by decide +kernel
theorem dX11_ears_0 : decode cX11_ears 0 = .ok (.iload_n 1, 1) := by decide +kernel
theorem dX11_ears_1 : decode cX11_ears 1 = .ok (.iconst 1, 1) := by decide +kernel
theorem dX11_ears_2 : decode cX11_ears 2 = .ok (.bipush 7, 2) := by decide +kernel
theorem dX11_ears_4 : decode cX11_ears 4 = .ok (.invokestatic 89, 3) := by decide +kernel
theorem dX11_ears_7 : decode cX11_ears 7 = .ok (.ifCond .eq 22, 3) := by decide +kernel
theorem dX11_ears_10 : decode cX11_ears 10 = .ok (.iload_n 2, 1) := by decide +kernel
theorem dX11_ears_11 : decode cX11_ears 11 = .ok (.iconst 1, 1) := by decide +kernel
theorem dX11_ears_12 : decode cX11_ears 12 = .ok (.iconst 5, 1) := by decide +kernel
theorem dX11_ears_13 : decode cX11_ears 13 = .ok (.invokestatic 89, 3) := by decide +kernel
theorem dX11_ears_16 : decode cX11_ears 16 = .ok (.ifCond .eq 13, 3) := by decide +kernel
theorem dX11_ears_19 : decode cX11_ears 19 = .ok (.iload_n 3, 1) := by decide +kernel
theorem dX11_ears_20 : decode cX11_ears 20 = .ok (.iconst 1, 1) := by decide +kernel
theorem dX11_ears_21 : decode cX11_ears 21 = .ok (.bipush 9, 2) := by decide +kernel
theorem dX11_ears_23 : decode cX11_ears 23 = .ok (.invokestatic 89, 3) := by decide +kernel
theorem dX11_ears_26 : decode cX11_ears 26 = .ok (.ifCond .ne 6, 3) := by decide +kernel
theorem dX11_ears_29 : decode cX11_ears 29 = .ok (.bipush (-2), 2) := by decide +kernel
theorem dX11_ears_31 : decode cX11_ears 31 = .ok (.ireturn, 1) := by decide +kernel
theorem dX11_ears_32 : decode cX11_ears 32 = .ok (.aload_n 0, 1) := by decide +kernel
theorem dX11_ears_33 : decode cX11_ears 33 = .ok (.iload_n 1, 1) := by decide +kernel
theorem dX11_ears_34 : decode cX11_ears 34 = .ok (.putfield 53, 3) := by decide +kernel
theorem dX11_ears_37 : decode cX11_ears 37 = .ok (.aload_n 0, 1) := by decide +kernel
theorem dX11_ears_38 : decode cX11_ears 38 = .ok (.iload_n 2, 1) := by decide +kernel
theorem dX11_ears_39 : decode cX11_ears 39 = .ok (.putfield 56, 3) := by decide +kernel
theorem dX11_ears_42 : decode cX11_ears 42 = .ok (.aload_n 0, 1) := by decide +kernel
theorem dX11_ears_43 : decode cX11_ears 43 = .ok (.iload_n 3, 1) := by decide +kernel
theorem dX11_ears_44 : decode cX11_ears 44 = .ok (.putfield 59, 3) := by decide +kernel
theorem dX11_ears_47 : decode cX11_ears 47 = .ok (.iconst 1, 1) := by decide +kernel
theorem dX11_ears_48 : decode cX11_ears 48 = .ok (.ireturn, 1) := by decide +kernel
theorem dX11_firstOf_0 : decode cX11_firstOf 0 = .ok (.iload_n 1, 1) := by decide +kernel
theorem dX11_firstOf_1 : decode cX11_firstOf 1 = .ok (.istore 4, 2) := by decide +kernel
theorem dX11_firstOf_3 : decode cX11_firstOf 3 = .ok (.iload 4, 2) := by decide +kernel
theorem dX11_firstOf_5 : decode cX11_firstOf 5 = .ok (.iload_n 2, 1) := by decide +kernel
theorem dX11_firstOf_6 : decode cX11_firstOf 6 = .ok (.iadd, 1) := by decide +kernel
theorem dX11_firstOf_7 : decode cX11_firstOf 7 = .ok (.aload_n 0, 1) := by decide +kernel
theorem dX11_firstOf_8 : decode cX11_firstOf 8 = .ok (.getfield 93, 3) := by decide +kernel
theorem dX11_firstOf_11 : decode cX11_firstOf 11 = .ok (.if_icmp .gt 59, 3) := by decide +kernel
theorem dX11_firstOf_14 : decode cX11_firstOf 14 = .ok (.iconst 0, 1) := by decide +kernel
theorem dX11_firstOf_15 : decode cX11_firstOf 15 = .ok (.istore 5, 2) := by decide +kernel
theorem dX11_firstOf_17 : decode cX11_firstOf 17 = .ok (.iload 5, 2) := by decide +kernel
theorem dX11_firstOf_19 : decode cX11_firstOf 19 = .ok (.iload_n 2, 1) := by decide +kernel
theorem dX11_firstOf_20 : decode cX11_firstOf 20 = .ok (.if_icmp .ge 35, 3) := by decide +kernel
theorem dX11_firstOf_23 : decode cX11_firstOf 23 = .ok (.aload_n 0, 1) := by decide +kernel
theorem dX11_firstOf_24 : decode cX11_firstOf 24 = .ok (.getfield 7, 3) := by decide +kernel
theorem dX11_firstOf_27 : decode cX11_firstOf 27 = .ok (.iload 4, 2) := by decide +kernel
theorem dX11_firstOf_29 : decode cX11_firstOf 29 = .ok (.iload 5, 2) := by decide +kernel
theorem dX11_firstOf_31 : decode cX11_firstOf 31 = .ok (.iadd, 1) := by decide +kernel
theorem dX11_firstOf_32 : decode cX11_firstOf 32 = .ok (.iaload, 1) := by decide +kernel
theorem dX11_firstOf_33 : decode cX11_firstOf 33 = .ok (.aload_n 0, 1) := by decide +kernel
theorem dX11_firstOf_34 : decode cX11_firstOf 34 = .ok (.getfield 53, 3) := by decide +kernel
theorem dX11_firstOf_37 : decode cX11_firstOf 37 = .ok (.if_icmp .lt 7, 3) := by decide +kernel
theorem dX11_firstOf_40 : decode cX11_firstOf 40 = .ok (.iconst 1, 1) := by decide +kernel
theorem dX11_firstOf_41 : decode cX11_firstOf 41 = .ok (.goto 4, 3) := by decide +kernel
theorem dX11_firstOf_44 : decode cX11_firstOf 44 = .ok (.iconst 0, 1) := by decide +kernel
theorem dX11_firstOf_45 : decode cX11_firstOf 45 = .ok (.iload_n 3, 1) := by decide +kernel
theorem dX11_firstOf_46 : decode cX11_firstOf 46 = .ok (.if_icmp .ne 9, 3) := by decide +kernel
theorem dX11_firstOf_49 : decode cX11_firstOf 49 = .ok (.iinc 5 1, 3) := by decide +kernel
theorem dX11_firstOf_52 : decode cX11_firstOf 52 = .ok (.goto (-35), 3) := by decide +kernel
theorem dX11_firstOf_55 : decode cX11_firstOf 55 = .ok (.iload 5, 2) := by decide +kernel
theorem dX11_firstOf_57 : decode cX11_firstOf 57 = .ok (.iload_n 2, 1) := by decide +kernel
theorem dX11_firstOf_58 : decode cX11_firstOf 58 = .ok (.if_icmp .ne 6, 3) := by decide +kernel
theorem dX11_firstOf_61 : decode cX11_firstOf 61 = .ok (.iload 4, 2) := by decide +kernel
theorem dX11_firstOf_63 : decode cX11_firstOf 63 = .ok (.ireturn, 1) := by decide +kernel
theorem dX11_firstOf_64 : decode cX11_firstOf 64 = .ok (.iinc 4 1, 3) := by decide +kernel
theorem dX11_firstOf_67 : decode cX11_firstOf 67 = .ok (.goto (-64), 3) := by decide +kernel
theorem dX11_firstOf_70 : decode cX11_firstOf 70 = .ok (.iconst (-1), 1) := by decide +kernel
theorem dX11_firstOf_71 : decode cX11_firstOf 71 = .ok (.ireturn, 1) := by decide +kernel
theorem dX11_speech_0 : decode cX11_speech 0 = .ok (.iload_n 1, 1) := by decide +kernel
theorem dX11_speech_1 : decode cX11_speech 1 = .ok (.iconst 0, 1) := by decide +kernel
theorem dX11_speech_2 : decode cX11_speech 2 = .ok (.iconst 1, 1) := by decide +kernel
theorem dX11_speech_3 : decode cX11_speech 3 = .ok (.invokestatic 89, 3) := by decide +kernel
theorem dX11_speech_6 : decode cX11_speech 6 = .ok (.ifCond .ne 6, 3) := by decide +kernel
theorem dX11_speech_9 : decode cX11_speech 9 = .ok (.bipush (-2), 2) := by decide +kernel
theorem dX11_speech_11 : decode cX11_speech 11 = .ok (.ireturn, 1) := by decide +kernel
theorem dX11_speech_12 : decode cX11_speech 12 = .ok (.aload_n 0, 1) := by decide +kernel
theorem dX11_speech_13 : decode cX11_speech 13 = .ok (.iconst 0, 1) := by decide +kernel
theorem dX11_speech_14 : decode cX11_speech 14 = .ok (.aload_n 0, 1) := by decide +kernel
theorem dX11_speech_15 : decode cX11_speech 15 = .ok (.getfield 56, 3) := by decide +kernel
theorem dX11_speech_18 : decode cX11_speech 18 = .ok (.iconst 1, 1) := by decide +kernel
theorem dX11_speech_19 : decode cX11_speech 19 = .ok (.invokevirtual 182, 3) := by decide +kernel
theorem dX11_speech_22 : decode cX11_speech 22 = .ok (.istore_n 2, 1) := by decide +kernel
theorem dX11_speech_23 : decode cX11_speech 23 = .ok (.iload_n 2, 1) := by decide +kernel
theorem dX11_speech_24 : decode cX11_speech 24 = .ok (.iconst (-1), 1) := by decide +kernel
theorem dX11_speech_25 : decode cX11_speech 25 = .ok (.if_icmp .ne 6, 3) := by decide +kernel
theorem dX11_speech_28 : decode cX11_speech 28 = .ok (.bipush (-3), 2) := by decide +kernel
theorem dX11_speech_30 : decode cX11_speech 30 = .ok (.ireturn, 1) := by decide +kernel
theorem dX11_speech_31 : decode cX11_speech 31 = .ok (.aload_n 0, 1) := by decide +kernel
theorem dX11_speech_32 : decode cX11_speech 32 = .ok (.iload_n 2, 1) := by decide +kernel
theorem dX11_speech_33 : decode cX11_speech 33 = .ok (.aload_n 0, 1) := by decide +kernel
theorem dX11_speech_34 : decode cX11_speech 34 = .ok (.getfield 59, 3) := by decide +kernel
theorem dX11_speech_37 : decode cX11_speech 37 = .ok (.iconst 0, 1) := by decide +kernel
theorem dX11_speech_38 : decode cX11_speech 38 = .ok (.invokevirtual 182, 3) := by decide +kernel
theorem dX11_speech_41 : decode cX11_speech 41 = .ok (.istore_n 3, 1) := by decide +kernel
theorem dX11_speech_42 : decode cX11_speech 42 = .ok (.iload_n 1, 1) := by decide +kernel
theorem dX11_speech_43 : decode cX11_speech 43 = .ok (.ifCond .ne 7, 3) := by decide +kernel
theorem dX11_speech_46 : decode cX11_speech 46 = .ok (.iload_n 2, 1) := by decide +kernel
theorem dX11_speech_47 : decode cX11_speech 47 = .ok (.goto 16, 3) := by decide +kernel
theorem dX11_speech_50 : decode cX11_speech 50 = .ok (.iload_n 3, 1) := by decide +kernel
theorem dX11_speech_51 : decode cX11_speech 51 = .ok (.iconst (-1), 1) := by decide +kernel
theorem dX11_speech_52 : decode cX11_speech 52 = .ok (.if_icmp .ne 10, 3) := by decide +kernel
theorem dX11_speech_55 : decode cX11_speech 55 = .ok (.aload_n 0, 1) := by decide +kernel
theorem dX11_speech_56 : decode cX11_speech 56 = .ok (.getfield 93, 3) := by decide +kernel
theorem dX11_speech_59 : decode cX11_speech 59 = .ok (.goto 4, 3) := by decide +kernel
theorem dX11_speech_62 : decode cX11_speech 62 = .ok (.iload_n 3, 1) := by decide +kernel
theorem dX11_speech_63 : decode cX11_speech 63 = .ok (.ireturn, 1) := by decide +kernel
theorem dX11_count_0 : decode cX11_count 0 = .ok (.iload_n 1, 1) := by decide +kernel
theorem dX11_count_1 : decode cX11_count 1 = .ok (.tableswitch 68 0 4 #[35, 40, 45, 50, 55], 35) := by decide +kernel
theorem dX11_count_36 : decode cX11_count 36 = .ok (.aload_n 0, 1) := by decide +kernel
theorem dX11_count_37 : decode cX11_count 37 = .ok (.getfield 93, 3) := by decide +kernel
theorem dX11_count_40 : decode cX11_count 40 = .ok (.ireturn, 1) := by decide +kernel
theorem dX11_count_41 : decode cX11_count 41 = .ok (.aload_n 0, 1) := by decide +kernel
theorem dX11_count_42 : decode cX11_count 42 = .ok (.getfield 104, 3) := by decide +kernel
theorem dX11_count_45 : decode cX11_count 45 = .ok (.ireturn, 1) := by decide +kernel
theorem dX11_count_46 : decode cX11_count 46 = .ok (.aload_n 0, 1) := by decide +kernel
theorem dX11_count_47 : decode cX11_count 47 = .ok (.getfield 160, 3) := by decide +kernel
theorem dX11_count_50 : decode cX11_count 50 = .ok (.ireturn, 1) := by decide +kernel
theorem dX11_count_51 : decode cX11_count 51 = .ok (.aload_n 0, 1) := by decide +kernel
theorem dX11_count_52 : decode cX11_count 52 = .ok (.getfield 179, 3) := by decide +kernel
theorem dX11_count_55 : decode cX11_count 55 = .ok (.ireturn, 1) := by decide +kernel
theorem dX11_count_56 : decode cX11_count 56 = .ok (.aload_n 0, 1) := by decide +kernel
theorem dX11_count_57 : decode cX11_count 57 = .ok (.getfield 96, 3) := by decide +kernel
theorem dX11_count_60 : decode cX11_count 60 = .ok (.ifCond .eq 7, 3) := by decide +kernel
theorem dX11_count_63 : decode cX11_count 63 = .ok (.iconst 1, 1) := by decide +kernel
theorem dX11_count_64 : decode cX11_count 64 = .ok (.goto 4, 3) := by decide +kernel
theorem dX11_count_67 : decode cX11_count 67 = .ok (.iconst 0, 1) := by decide +kernel
theorem dX11_count_68 : decode cX11_count 68 = .ok (.ireturn, 1) := by decide +kernel
theorem dX11_count_69 : decode cX11_count 69 = .ok (.bipush (-2), 2) := by decide +kernel
theorem dX11_count_71 : decode cX11_count 71 = .ok (.ireturn, 1) := by decide +kernel
theorem dJ9_max_7cf53_0 : decode cJ9_max_7cf53 0 = .ok (.iload_n 0, 1) := by decide +kernel
theorem dJ9_max_7cf53_1 : decode cJ9_max_7cf53 1 = .ok (.iload_n 1, 1) := by decide +kernel
theorem dJ9_max_7cf53_2 : decode cJ9_max_7cf53 2 = .ok (.if_icmp .lt 7, 3) := by decide +kernel
theorem dJ9_max_7cf53_5 : decode cJ9_max_7cf53 5 = .ok (.iload_n 0, 1) := by decide +kernel
theorem dJ9_max_7cf53_6 : decode cJ9_max_7cf53 6 = .ok (.goto 4, 3) := by decide +kernel
theorem dJ9_max_7cf53_9 : decode cJ9_max_7cf53 9 = .ok (.iload_n 1, 1) := by decide +kernel
theorem dJ9_max_7cf53_10 : decode cJ9_max_7cf53 10 = .ok (.ireturn, 1) := by decide +kernel
theorem dJ9_min_7cf53_0 : decode cJ9_min_7cf53 0 = .ok (.iload_n 0, 1) := by decide +kernel
theorem dJ9_min_7cf53_1 : decode cJ9_min_7cf53 1 = .ok (.iload_n 1, 1) := by decide +kernel
theorem dJ9_min_7cf53_2 : decode cJ9_min_7cf53 2 = .ok (.if_icmp .gt 7, 3) := by decide +kernel
theorem dJ9_min_7cf53_5 : decode cJ9_min_7cf53 5 = .ok (.iload_n 0, 1) := by decide +kernel
theorem dJ9_min_7cf53_6 : decode cJ9_min_7cf53 6 = .ok (.goto 4, 3) := by decide +kernel
theorem dJ9_min_7cf53_9 : decode cJ9_min_7cf53 9 = .ok (.iload_n 1, 1) := by decide +kernel
theorem dJ9_min_7cf53_10 : decode cJ9_min_7cf53 10 = .ok (.ireturn, 1) := by decide +kernel
theorem dJ7_fill_53178_0 : decode cJ7_fill_53178 0 = .ok (.iconst 0, 1) := by decide +kernel
theorem dJ7_fill_53178_1 : decode cJ7_fill_53178 1 = .ok (.istore_n 2, 1) := by decide +kernel
theorem dJ7_fill_53178_2 : decode cJ7_fill_53178 2 = .ok (.aload_n 0, 1) := by decide +kernel
theorem dJ7_fill_53178_3 : decode cJ7_fill_53178 3 = .ok (.arraylength, 1) := by decide +kernel
theorem dJ7_fill_53178_4 : decode cJ7_fill_53178 4 = .ok (.istore_n 3, 1) := by decide +kernel
theorem dJ7_fill_53178_5 : decode cJ7_fill_53178 5 = .ok (.iload_n 2, 1) := by decide +kernel
theorem dJ7_fill_53178_6 : decode cJ7_fill_53178 6 = .ok (.iload_n 3, 1) := by decide +kernel
theorem dJ7_fill_53178_7 : decode cJ7_fill_53178 7 = .ok (.if_icmp .ge 13, 3) := by decide +kernel
theorem dJ7_fill_53178_10 : decode cJ7_fill_53178 10 = .ok (.aload_n 0, 1) := by decide +kernel
theorem dJ7_fill_53178_11 : decode cJ7_fill_53178 11 = .ok (.iload_n 2, 1) := by decide +kernel
theorem dJ7_fill_53178_12 : decode cJ7_fill_53178 12 = .ok (.iload_n 1, 1) := by decide +kernel
theorem dJ7_fill_53178_13 : decode cJ7_fill_53178 13 = .ok (.iastore, 1) := by decide +kernel
theorem dJ7_fill_53178_14 : decode cJ7_fill_53178 14 = .ok (.iinc 2 1, 3) := by decide +kernel
theorem dJ7_fill_53178_17 : decode cJ7_fill_53178 17 = .ok (.goto (-12), 3) := by decide +kernel
theorem dJ7_fill_53178_20 : decode cJ7_fill_53178 20 = .ok (.return_, 1) := by decide +kernel
theorem dL_law_0 : decode cL_law 0 = .ok (.new 7, 3) := by decide +kernel
theorem dL_law_3 : decode cL_law 3 = .ok (.dup, 1) := by decide +kernel
theorem dL_law_4 : decode cL_law 4 = .ok (.invokespecial 9, 3) := by decide +kernel
theorem dL_law_7 : decode cL_law 7 = .ok (.astore_n 1, 1) := by decide +kernel
theorem dL_law_8 : decode cL_law 8 = .ok (.new 10, 3) := by decide +kernel
theorem dL_law_11 : decode cL_law 11 = .ok (.dup, 1) := by decide +kernel
theorem dL_law_12 : decode cL_law 12 = .ok (.invokespecial 12, 3) := by decide +kernel
theorem dL_law_15 : decode cL_law 15 = .ok (.astore_n 2, 1) := by decide +kernel
theorem dL_law_16 : decode cL_law 16 = .ok (.iconst 0, 1) := by decide +kernel
theorem dL_law_17 : decode cL_law 17 = .ok (.istore_n 3, 1) := by decide +kernel
theorem dL_law_18 : decode cL_law 18 = .ok (.iload_n 3, 1) := by decide +kernel
theorem dL_law_19 : decode cL_law 19 = .ok (.aload_n 0, 1) := by decide +kernel
theorem dL_law_20 : decode cL_law 20 = .ok (.arraylength, 1) := by decide +kernel
theorem dL_law_21 : decode cL_law 21 = .ok (.bipush 6, 2) := by decide +kernel
theorem dL_law_23 : decode cL_law 23 = .ok (.isub, 1) := by decide +kernel
theorem dL_law_24 : decode cL_law 24 = .ok (.if_icmp .gt 738, 3) := by decide +kernel
theorem dL_law_27 : decode cL_law 27 = .ok (.aload_n 0, 1) := by decide +kernel
theorem dL_law_28 : decode cL_law 28 = .ok (.iload_n 3, 1) := by decide +kernel
theorem dL_law_29 : decode cL_law 29 = .ok (.iaload, 1) := by decide +kernel
theorem dL_law_30 : decode cL_law 30 = .ok (.bipush 31, 2) := by decide +kernel
theorem dL_law_32 : decode cL_law 32 = .ok (.iand, 1) := by decide +kernel
theorem dL_law_33 : decode cL_law 33 = .ok (.tableswitch 723 0 23 #[111, 134, 147, 190, 213, 266, 329, 372, 385, 398, 421, 434, 457, 470, 483, 516, 529, 542, 555, 588, 601, 634, 677, 700], 111) := by decide +kernel
theorem dL_law_144 : decode cL_law 144 = .ok (.aload_n 1, 1) := by decide +kernel
theorem dL_law_145 : decode cL_law 145 = .ok (.aload_n 0, 1) := by decide +kernel
theorem dL_law_146 : decode cL_law 146 = .ok (.iload_n 3, 1) := by decide +kernel
theorem dL_law_147 : decode cL_law 147 = .ok (.iconst 1, 1) := by decide +kernel
theorem dL_law_148 : decode cL_law 148 = .ok (.iadd, 1) := by decide +kernel
theorem dL_law_149 : decode cL_law 149 = .ok (.iaload, 1) := by decide +kernel
theorem dL_law_150 : decode cL_law 150 = .ok (.invokevirtual 13, 3) := by decide +kernel
theorem dL_law_153 : decode cL_law 153 = .ok (.aload_n 2, 1) := by decide +kernel
theorem dL_law_154 : decode cL_law 154 = .ok (.aload_n 0, 1) := by decide +kernel
theorem dL_law_155 : decode cL_law 155 = .ok (.iload_n 3, 1) := by decide +kernel
theorem dL_law_156 : decode cL_law 156 = .ok (.iconst 1, 1) := by decide +kernel
theorem dL_law_157 : decode cL_law 157 = .ok (.iadd, 1) := by decide +kernel
theorem dL_law_158 : decode cL_law 158 = .ok (.iaload, 1) := by decide +kernel
theorem dL_law_159 : decode cL_law 159 = .ok (.invokevirtual 17, 3) := by decide +kernel
theorem dL_law_162 : decode cL_law 162 = .ok (.if_icmp .eq 594, 3) := by decide +kernel
theorem dL_law_165 : decode cL_law 165 = .ok (.iconst 0, 1) := by decide +kernel
theorem dL_law_166 : decode cL_law 166 = .ok (.ireturn, 1) := by decide +kernel
theorem dL_law_167 : decode cL_law 167 = .ok (.aload_n 1, 1) := by decide +kernel
theorem dL_law_168 : decode cL_law 168 = .ok (.invokevirtual 18, 3) := by decide +kernel
theorem dL_law_171 : decode cL_law 171 = .ok (.aload_n 2, 1) := by decide +kernel
theorem dL_law_172 : decode cL_law 172 = .ok (.invokevirtual 22, 3) := by decide +kernel
theorem dL_law_175 : decode cL_law 175 = .ok (.if_icmp .eq 581, 3) := by decide +kernel
theorem dL_law_178 : decode cL_law 178 = .ok (.iconst 0, 1) := by decide +kernel
theorem dL_law_179 : decode cL_law 179 = .ok (.ireturn, 1) := by decide +kernel
theorem dL_law_180 : decode cL_law 180 = .ok (.aload_n 1, 1) := by decide +kernel
theorem dL_law_181 : decode cL_law 181 = .ok (.aload_n 0, 1) := by decide +kernel
theorem dL_law_182 : decode cL_law 182 = .ok (.iload_n 3, 1) := by decide +kernel
theorem dL_law_183 : decode cL_law 183 = .ok (.iconst 1, 1) := by decide +kernel
theorem dL_law_184 : decode cL_law 184 = .ok (.iadd, 1) := by decide +kernel
theorem dL_law_185 : decode cL_law 185 = .ok (.iaload, 1) := by decide +kernel
theorem dL_law_186 : decode cL_law 186 = .ok (.aload_n 0, 1) := by decide +kernel
theorem dL_law_187 : decode cL_law 187 = .ok (.iload_n 3, 1) := by decide +kernel
theorem dL_law_188 : decode cL_law 188 = .ok (.iconst 2, 1) := by decide +kernel
theorem dL_law_189 : decode cL_law 189 = .ok (.iadd, 1) := by decide +kernel
theorem dL_law_190 : decode cL_law 190 = .ok (.iaload, 1) := by decide +kernel
theorem dL_law_191 : decode cL_law 191 = .ok (.aload_n 0, 1) := by decide +kernel
theorem dL_law_192 : decode cL_law 192 = .ok (.iload_n 3, 1) := by decide +kernel
theorem dL_law_193 : decode cL_law 193 = .ok (.iconst 3, 1) := by decide +kernel
theorem dL_law_194 : decode cL_law 194 = .ok (.iadd, 1) := by decide +kernel
theorem dL_law_195 : decode cL_law 195 = .ok (.iaload, 1) := by decide +kernel
theorem dL_law_196 : decode cL_law 196 = .ok (.invokevirtual 23, 3) := by decide +kernel
theorem dL_law_199 : decode cL_law 199 = .ok (.aload_n 2, 1) := by decide +kernel
theorem dL_law_200 : decode cL_law 200 = .ok (.aload_n 0, 1) := by decide +kernel
theorem dL_law_201 : decode cL_law 201 = .ok (.iload_n 3, 1) := by decide +kernel
theorem dL_law_202 : decode cL_law 202 = .ok (.iconst 1, 1) := by decide +kernel
theorem dL_law_203 : decode cL_law 203 = .ok (.iadd, 1) := by decide +kernel
theorem dL_law_204 : decode cL_law 204 = .ok (.iaload, 1) := by decide +kernel
theorem dL_law_205 : decode cL_law 205 = .ok (.aload_n 0, 1) := by decide +kernel
theorem dL_law_206 : decode cL_law 206 = .ok (.iload_n 3, 1) := by decide +kernel
theorem dL_law_207 : decode cL_law 207 = .ok (.iconst 2, 1) := by decide +kernel
theorem dL_law_208 : decode cL_law 208 = .ok (.iadd, 1) := by decide +kernel
theorem dL_law_209 : decode cL_law 209 = .ok (.iaload, 1) := by decide +kernel
theorem dL_law_210 : decode cL_law 210 = .ok (.aload_n 0, 1) := by decide +kernel
theorem dL_law_211 : decode cL_law 211 = .ok (.iload_n 3, 1) := by decide +kernel
theorem dL_law_212 : decode cL_law 212 = .ok (.iconst 3, 1) := by decide +kernel
theorem dL_law_213 : decode cL_law 213 = .ok (.iadd, 1) := by decide +kernel
theorem dL_law_214 : decode cL_law 214 = .ok (.iaload, 1) := by decide +kernel
theorem dL_law_215 : decode cL_law 215 = .ok (.invokevirtual 27, 3) := by decide +kernel
theorem dL_law_218 : decode cL_law 218 = .ok (.if_icmp .eq 538, 3) := by decide +kernel
theorem dL_law_221 : decode cL_law 221 = .ok (.iconst 0, 1) := by decide +kernel
theorem dL_law_222 : decode cL_law 222 = .ok (.ireturn, 1) := by decide +kernel
theorem dL_law_223 : decode cL_law 223 = .ok (.aload_n 1, 1) := by decide +kernel
theorem dL_law_224 : decode cL_law 224 = .ok (.aload_n 0, 1) := by decide +kernel
theorem dL_law_225 : decode cL_law 225 = .ok (.iload_n 3, 1) := by decide +kernel
theorem dL_law_226 : decode cL_law 226 = .ok (.iconst 1, 1) := by decide +kernel
theorem dL_law_227 : decode cL_law 227 = .ok (.iadd, 1) := by decide +kernel
theorem dL_law_228 : decode cL_law 228 = .ok (.iaload, 1) := by decide +kernel
theorem dL_law_229 : decode cL_law 229 = .ok (.invokevirtual 28, 3) := by decide +kernel
theorem dL_law_232 : decode cL_law 232 = .ok (.aload_n 2, 1) := by decide +kernel
theorem dL_law_233 : decode cL_law 233 = .ok (.aload_n 0, 1) := by decide +kernel
theorem dL_law_234 : decode cL_law 234 = .ok (.iload_n 3, 1) := by decide +kernel
theorem dL_law_235 : decode cL_law 235 = .ok (.iconst 1, 1) := by decide +kernel
theorem dL_law_236 : decode cL_law 236 = .ok (.iadd, 1) := by decide +kernel
theorem dL_law_237 : decode cL_law 237 = .ok (.iaload, 1) := by decide +kernel
theorem dL_law_238 : decode cL_law 238 = .ok (.invokevirtual 31, 3) := by decide +kernel
theorem dL_law_241 : decode cL_law 241 = .ok (.if_icmp .eq 515, 3) := by decide +kernel
theorem dL_law_244 : decode cL_law 244 = .ok (.iconst 0, 1) := by decide +kernel
theorem dL_law_245 : decode cL_law 245 = .ok (.ireturn, 1) := by decide +kernel
theorem dL_law_246 : decode cL_law 246 = .ok (.aload_n 1, 1) := by decide +kernel
theorem dL_law_247 : decode cL_law 247 = .ok (.aload_n 0, 1) := by decide +kernel
theorem dL_law_248 : decode cL_law 248 = .ok (.iload_n 3, 1) := by decide +kernel
theorem dL_law_249 : decode cL_law 249 = .ok (.iconst 1, 1) := by decide +kernel
theorem dL_law_250 : decode cL_law 250 = .ok (.iadd, 1) := by decide +kernel
theorem dL_law_251 : decode cL_law 251 = .ok (.iaload, 1) := by decide +kernel
theorem dL_law_252 : decode cL_law 252 = .ok (.aload_n 0, 1) := by decide +kernel
theorem dL_law_253 : decode cL_law 253 = .ok (.iload_n 3, 1) := by decide +kernel
theorem dL_law_254 : decode cL_law 254 = .ok (.iconst 2, 1) := by decide +kernel
theorem dL_law_255 : decode cL_law 255 = .ok (.iadd, 1) := by decide +kernel
theorem dL_law_256 : decode cL_law 256 = .ok (.iaload, 1) := by decide +kernel
theorem dL_law_257 : decode cL_law 257 = .ok (.aload_n 0, 1) := by decide +kernel
theorem dL_law_258 : decode cL_law 258 = .ok (.iload_n 3, 1) := by decide +kernel
theorem dL_law_259 : decode cL_law 259 = .ok (.iconst 3, 1) := by decide +kernel
theorem dL_law_260 : decode cL_law 260 = .ok (.iadd, 1) := by decide +kernel
theorem dL_law_261 : decode cL_law 261 = .ok (.iaload, 1) := by decide +kernel
theorem dL_law_262 : decode cL_law 262 = .ok (.aload_n 0, 1) := by decide +kernel
theorem dL_law_263 : decode cL_law 263 = .ok (.iload_n 3, 1) := by decide +kernel
theorem dL_law_264 : decode cL_law 264 = .ok (.iconst 4, 1) := by decide +kernel
theorem dL_law_265 : decode cL_law 265 = .ok (.iadd, 1) := by decide +kernel
theorem dL_law_266 : decode cL_law 266 = .ok (.iaload, 1) := by decide +kernel
theorem dL_law_267 : decode cL_law 267 = .ok (.invokevirtual 32, 3) := by decide +kernel
theorem dL_law_270 : decode cL_law 270 = .ok (.aload_n 2, 1) := by decide +kernel
theorem dL_law_271 : decode cL_law 271 = .ok (.aload_n 0, 1) := by decide +kernel
theorem dL_law_272 : decode cL_law 272 = .ok (.iload_n 3, 1) := by decide +kernel
theorem dL_law_273 : decode cL_law 273 = .ok (.iconst 1, 1) := by decide +kernel
theorem dL_law_274 : decode cL_law 274 = .ok (.iadd, 1) := by decide +kernel
theorem dL_law_275 : decode cL_law 275 = .ok (.iaload, 1) := by decide +kernel
theorem dL_law_276 : decode cL_law 276 = .ok (.aload_n 0, 1) := by decide +kernel
theorem dL_law_277 : decode cL_law 277 = .ok (.iload_n 3, 1) := by decide +kernel
theorem dL_law_278 : decode cL_law 278 = .ok (.iconst 2, 1) := by decide +kernel
theorem dL_law_279 : decode cL_law 279 = .ok (.iadd, 1) := by decide +kernel
theorem dL_law_280 : decode cL_law 280 = .ok (.iaload, 1) := by decide +kernel
theorem dL_law_281 : decode cL_law 281 = .ok (.aload_n 0, 1) := by decide +kernel
theorem dL_law_282 : decode cL_law 282 = .ok (.iload_n 3, 1) := by decide +kernel
theorem dL_law_283 : decode cL_law 283 = .ok (.iconst 3, 1) := by decide +kernel
theorem dL_law_284 : decode cL_law 284 = .ok (.iadd, 1) := by decide +kernel
theorem dL_law_285 : decode cL_law 285 = .ok (.iaload, 1) := by decide +kernel
theorem dL_law_286 : decode cL_law 286 = .ok (.aload_n 0, 1) := by decide +kernel
theorem dL_law_287 : decode cL_law 287 = .ok (.iload_n 3, 1) := by decide +kernel
theorem dL_law_288 : decode cL_law 288 = .ok (.iconst 4, 1) := by decide +kernel
theorem dL_law_289 : decode cL_law 289 = .ok (.iadd, 1) := by decide +kernel
theorem dL_law_290 : decode cL_law 290 = .ok (.iaload, 1) := by decide +kernel
theorem dL_law_291 : decode cL_law 291 = .ok (.invokevirtual 36, 3) := by decide +kernel
theorem dL_law_294 : decode cL_law 294 = .ok (.if_icmp .eq 462, 3) := by decide +kernel
theorem dL_law_297 : decode cL_law 297 = .ok (.iconst 0, 1) := by decide +kernel
theorem dL_law_298 : decode cL_law 298 = .ok (.ireturn, 1) := by decide +kernel
theorem dL_law_299 : decode cL_law 299 = .ok (.aload_n 1, 1) := by decide +kernel
theorem dL_law_300 : decode cL_law 300 = .ok (.aload_n 0, 1) := by decide +kernel
theorem dL_law_301 : decode cL_law 301 = .ok (.iload_n 3, 1) := by decide +kernel
theorem dL_law_302 : decode cL_law 302 = .ok (.iconst 1, 1) := by decide +kernel
theorem dL_law_303 : decode cL_law 303 = .ok (.iadd, 1) := by decide +kernel
theorem dL_law_304 : decode cL_law 304 = .ok (.iaload, 1) := by decide +kernel
theorem dL_law_305 : decode cL_law 305 = .ok (.aload_n 0, 1) := by decide +kernel
theorem dL_law_306 : decode cL_law 306 = .ok (.iload_n 3, 1) := by decide +kernel
theorem dL_law_307 : decode cL_law 307 = .ok (.iconst 2, 1) := by decide +kernel
theorem dL_law_308 : decode cL_law 308 = .ok (.iadd, 1) := by decide +kernel
theorem dL_law_309 : decode cL_law 309 = .ok (.iaload, 1) := by decide +kernel
theorem dL_law_310 : decode cL_law 310 = .ok (.aload_n 0, 1) := by decide +kernel
theorem dL_law_311 : decode cL_law 311 = .ok (.iload_n 3, 1) := by decide +kernel
theorem dL_law_312 : decode cL_law 312 = .ok (.iconst 3, 1) := by decide +kernel
theorem dL_law_313 : decode cL_law 313 = .ok (.iadd, 1) := by decide +kernel
theorem dL_law_314 : decode cL_law 314 = .ok (.iaload, 1) := by decide +kernel
theorem dL_law_315 : decode cL_law 315 = .ok (.aload_n 0, 1) := by decide +kernel
theorem dL_law_316 : decode cL_law 316 = .ok (.iload_n 3, 1) := by decide +kernel
theorem dL_law_317 : decode cL_law 317 = .ok (.iconst 4, 1) := by decide +kernel
theorem dL_law_318 : decode cL_law 318 = .ok (.iadd, 1) := by decide +kernel
theorem dL_law_319 : decode cL_law 319 = .ok (.iaload, 1) := by decide +kernel
theorem dL_law_320 : decode cL_law 320 = .ok (.aload_n 0, 1) := by decide +kernel
theorem dL_law_321 : decode cL_law 321 = .ok (.iload_n 3, 1) := by decide +kernel
theorem dL_law_322 : decode cL_law 322 = .ok (.iconst 5, 1) := by decide +kernel
theorem dL_law_323 : decode cL_law 323 = .ok (.iadd, 1) := by decide +kernel
theorem dL_law_324 : decode cL_law 324 = .ok (.iaload, 1) := by decide +kernel
theorem dL_law_325 : decode cL_law 325 = .ok (.invokevirtual 37, 3) := by decide +kernel
theorem dL_law_328 : decode cL_law 328 = .ok (.aload_n 2, 1) := by decide +kernel
theorem dL_law_329 : decode cL_law 329 = .ok (.aload_n 0, 1) := by decide +kernel
theorem dL_law_330 : decode cL_law 330 = .ok (.iload_n 3, 1) := by decide +kernel
theorem dL_law_331 : decode cL_law 331 = .ok (.iconst 1, 1) := by decide +kernel
theorem dL_law_332 : decode cL_law 332 = .ok (.iadd, 1) := by decide +kernel
theorem dL_law_333 : decode cL_law 333 = .ok (.iaload, 1) := by decide +kernel
theorem dL_law_334 : decode cL_law 334 = .ok (.aload_n 0, 1) := by decide +kernel
theorem dL_law_335 : decode cL_law 335 = .ok (.iload_n 3, 1) := by decide +kernel
theorem dL_law_336 : decode cL_law 336 = .ok (.iconst 2, 1) := by decide +kernel
theorem dL_law_337 : decode cL_law 337 = .ok (.iadd, 1) := by decide +kernel
theorem dL_law_338 : decode cL_law 338 = .ok (.iaload, 1) := by decide +kernel
theorem dL_law_339 : decode cL_law 339 = .ok (.aload_n 0, 1) := by decide +kernel
theorem dL_law_340 : decode cL_law 340 = .ok (.iload_n 3, 1) := by decide +kernel
theorem dL_law_341 : decode cL_law 341 = .ok (.iconst 3, 1) := by decide +kernel
theorem dL_law_342 : decode cL_law 342 = .ok (.iadd, 1) := by decide +kernel
theorem dL_law_343 : decode cL_law 343 = .ok (.iaload, 1) := by decide +kernel
theorem dL_law_344 : decode cL_law 344 = .ok (.aload_n 0, 1) := by decide +kernel
theorem dL_law_345 : decode cL_law 345 = .ok (.iload_n 3, 1) := by decide +kernel
theorem dL_law_346 : decode cL_law 346 = .ok (.iconst 4, 1) := by decide +kernel
theorem dL_law_347 : decode cL_law 347 = .ok (.iadd, 1) := by decide +kernel
theorem dL_law_348 : decode cL_law 348 = .ok (.iaload, 1) := by decide +kernel
theorem dL_law_349 : decode cL_law 349 = .ok (.aload_n 0, 1) := by decide +kernel
theorem dL_law_350 : decode cL_law 350 = .ok (.iload_n 3, 1) := by decide +kernel
theorem dL_law_351 : decode cL_law 351 = .ok (.iconst 5, 1) := by decide +kernel
theorem dL_law_352 : decode cL_law 352 = .ok (.iadd, 1) := by decide +kernel
theorem dL_law_353 : decode cL_law 353 = .ok (.iaload, 1) := by decide +kernel
theorem dL_law_354 : decode cL_law 354 = .ok (.invokevirtual 41, 3) := by decide +kernel
theorem dL_law_357 : decode cL_law 357 = .ok (.if_icmp .eq 399, 3) := by decide +kernel
theorem dL_law_360 : decode cL_law 360 = .ok (.iconst 0, 1) := by decide +kernel
theorem dL_law_361 : decode cL_law 361 = .ok (.ireturn, 1) := by decide +kernel
theorem dL_law_362 : decode cL_law 362 = .ok (.aload_n 1, 1) := by decide +kernel
theorem dL_law_363 : decode cL_law 363 = .ok (.aload_n 0, 1) := by decide +kernel
theorem dL_law_364 : decode cL_law 364 = .ok (.iload_n 3, 1) := by decide +kernel
theorem dL_law_365 : decode cL_law 365 = .ok (.iconst 1, 1) := by decide +kernel
theorem dL_law_366 : decode cL_law 366 = .ok (.iadd, 1) := by decide +kernel
theorem dL_law_367 : decode cL_law 367 = .ok (.iaload, 1) := by decide +kernel
theorem dL_law_368 : decode cL_law 368 = .ok (.aload_n 0, 1) := by decide +kernel
theorem dL_law_369 : decode cL_law 369 = .ok (.iload_n 3, 1) := by decide +kernel
theorem dL_law_370 : decode cL_law 370 = .ok (.iconst 2, 1) := by decide +kernel
theorem dL_law_371 : decode cL_law 371 = .ok (.iadd, 1) := by decide +kernel
theorem dL_law_372 : decode cL_law 372 = .ok (.iaload, 1) := by decide +kernel
theorem dL_law_373 : decode cL_law 373 = .ok (.aload_n 0, 1) := by decide +kernel
theorem dL_law_374 : decode cL_law 374 = .ok (.iload_n 3, 1) := by decide +kernel
theorem dL_law_375 : decode cL_law 375 = .ok (.iconst 3, 1) := by decide +kernel
theorem dL_law_376 : decode cL_law 376 = .ok (.iadd, 1) := by decide +kernel
theorem dL_law_377 : decode cL_law 377 = .ok (.iaload, 1) := by decide +kernel
theorem dL_law_378 : decode cL_law 378 = .ok (.invokevirtual 42, 3) := by decide +kernel
theorem dL_law_381 : decode cL_law 381 = .ok (.aload_n 2, 1) := by decide +kernel
theorem dL_law_382 : decode cL_law 382 = .ok (.aload_n 0, 1) := by decide +kernel
theorem dL_law_383 : decode cL_law 383 = .ok (.iload_n 3, 1) := by decide +kernel
theorem dL_law_384 : decode cL_law 384 = .ok (.iconst 1, 1) := by decide +kernel
theorem dL_law_385 : decode cL_law 385 = .ok (.iadd, 1) := by decide +kernel
theorem dL_law_386 : decode cL_law 386 = .ok (.iaload, 1) := by decide +kernel
theorem dL_law_387 : decode cL_law 387 = .ok (.aload_n 0, 1) := by decide +kernel
theorem dL_law_388 : decode cL_law 388 = .ok (.iload_n 3, 1) := by decide +kernel
theorem dL_law_389 : decode cL_law 389 = .ok (.iconst 2, 1) := by decide +kernel
theorem dL_law_390 : decode cL_law 390 = .ok (.iadd, 1) := by decide +kernel
theorem dL_law_391 : decode cL_law 391 = .ok (.iaload, 1) := by decide +kernel
theorem dL_law_392 : decode cL_law 392 = .ok (.aload_n 0, 1) := by decide +kernel
theorem dL_law_393 : decode cL_law 393 = .ok (.iload_n 3, 1) := by decide +kernel
theorem dL_law_394 : decode cL_law 394 = .ok (.iconst 3, 1) := by decide +kernel
theorem dL_law_395 : decode cL_law 395 = .ok (.iadd, 1) := by decide +kernel
theorem dL_law_396 : decode cL_law 396 = .ok (.iaload, 1) := by decide +kernel
theorem dL_law_397 : decode cL_law 397 = .ok (.invokevirtual 45, 3) := by decide +kernel
theorem dL_law_400 : decode cL_law 400 = .ok (.if_icmp .eq 356, 3) := by decide +kernel
theorem dL_law_403 : decode cL_law 403 = .ok (.iconst 0, 1) := by decide +kernel
theorem dL_law_404 : decode cL_law 404 = .ok (.ireturn, 1) := by decide +kernel
theorem dL_law_405 : decode cL_law 405 = .ok (.aload_n 1, 1) := by decide +kernel
theorem dL_law_406 : decode cL_law 406 = .ok (.invokevirtual 46, 3) := by decide +kernel
theorem dL_law_409 : decode cL_law 409 = .ok (.aload_n 2, 1) := by decide +kernel
theorem dL_law_410 : decode cL_law 410 = .ok (.invokevirtual 49, 3) := by decide +kernel
theorem dL_law_413 : decode cL_law 413 = .ok (.if_icmp .eq 343, 3) := by decide +kernel
theorem dL_law_416 : decode cL_law 416 = .ok (.iconst 0, 1) := by decide +kernel
theorem dL_law_417 : decode cL_law 417 = .ok (.ireturn, 1) := by decide +kernel
theorem dL_law_418 : decode cL_law 418 = .ok (.aload_n 1, 1) := by decide +kernel
theorem dL_law_419 : decode cL_law 419 = .ok (.invokevirtual 50, 3) := by decide +kernel
theorem dL_law_422 : decode cL_law 422 = .ok (.aload_n 2, 1) := by decide +kernel
theorem dL_law_423 : decode cL_law 423 = .ok (.invokevirtual 53, 3) := by decide +kernel
theorem dL_law_426 : decode cL_law 426 = .ok (.if_icmp .eq 330, 3) := by decide +kernel
theorem dL_law_429 : decode cL_law 429 = .ok (.iconst 0, 1) := by decide +kernel
theorem dL_law_430 : decode cL_law 430 = .ok (.ireturn, 1) := by decide +kernel
theorem dL_law_431 : decode cL_law 431 = .ok (.aload_n 1, 1) := by decide +kernel
theorem dL_law_432 : decode cL_law 432 = .ok (.aload_n 0, 1) := by decide +kernel
theorem dL_law_433 : decode cL_law 433 = .ok (.iload_n 3, 1) := by decide +kernel
theorem dL_law_434 : decode cL_law 434 = .ok (.iconst 1, 1) := by decide +kernel
theorem dL_law_435 : decode cL_law 435 = .ok (.iadd, 1) := by decide +kernel
theorem dL_law_436 : decode cL_law 436 = .ok (.iaload, 1) := by decide +kernel
theorem dL_law_437 : decode cL_law 437 = .ok (.invokevirtual 54, 3) := by decide +kernel
theorem dL_law_440 : decode cL_law 440 = .ok (.aload_n 2, 1) := by decide +kernel
theorem dL_law_441 : decode cL_law 441 = .ok (.aload_n 0, 1) := by decide +kernel
theorem dL_law_442 : decode cL_law 442 = .ok (.iload_n 3, 1) := by decide +kernel
theorem dL_law_443 : decode cL_law 443 = .ok (.iconst 1, 1) := by decide +kernel
theorem dL_law_444 : decode cL_law 444 = .ok (.iadd, 1) := by decide +kernel
theorem dL_law_445 : decode cL_law 445 = .ok (.iaload, 1) := by decide +kernel
theorem dL_law_446 : decode cL_law 446 = .ok (.invokevirtual 57, 3) := by decide +kernel
theorem dL_law_449 : decode cL_law 449 = .ok (.if_icmp .eq 307, 3) := by decide +kernel
theorem dL_law_452 : decode cL_law 452 = .ok (.iconst 0, 1) := by decide +kernel
theorem dL_law_453 : decode cL_law 453 = .ok (.ireturn, 1) := by decide +kernel
theorem dL_law_454 : decode cL_law 454 = .ok (.aload_n 1, 1) := by decide +kernel
theorem dL_law_455 : decode cL_law 455 = .ok (.invokevirtual 58, 3) := by decide +kernel
theorem dL_law_458 : decode cL_law 458 = .ok (.aload_n 2, 1) := by decide +kernel
theorem dL_law_459 : decode cL_law 459 = .ok (.invokevirtual 61, 3) := by decide +kernel
theorem dL_law_462 : decode cL_law 462 = .ok (.if_icmp .eq 294, 3) := by decide +kernel
theorem dL_law_465 : decode cL_law 465 = .ok (.iconst 0, 1) := by decide +kernel
theorem dL_law_466 : decode cL_law 466 = .ok (.ireturn, 1) := by decide +kernel
theorem dL_law_467 : decode cL_law 467 = .ok (.aload_n 1, 1) := by decide +kernel
theorem dL_law_468 : decode cL_law 468 = .ok (.aload_n 0, 1) := by decide +kernel
theorem dL_law_469 : decode cL_law 469 = .ok (.iload_n 3, 1) := by decide +kernel
theorem dL_law_470 : decode cL_law 470 = .ok (.iconst 1, 1) := by decide +kernel
theorem dL_law_471 : decode cL_law 471 = .ok (.iadd, 1) := by decide +kernel
theorem dL_law_472 : decode cL_law 472 = .ok (.iaload, 1) := by decide +kernel
theorem dL_law_473 : decode cL_law 473 = .ok (.invokevirtual 62, 3) := by decide +kernel
theorem dL_law_476 : decode cL_law 476 = .ok (.aload_n 2, 1) := by decide +kernel
theorem dL_law_477 : decode cL_law 477 = .ok (.aload_n 0, 1) := by decide +kernel
theorem dL_law_478 : decode cL_law 478 = .ok (.iload_n 3, 1) := by decide +kernel
theorem dL_law_479 : decode cL_law 479 = .ok (.iconst 1, 1) := by decide +kernel
theorem dL_law_480 : decode cL_law 480 = .ok (.iadd, 1) := by decide +kernel
theorem dL_law_481 : decode cL_law 481 = .ok (.iaload, 1) := by decide +kernel
theorem dL_law_482 : decode cL_law 482 = .ok (.invokevirtual 65, 3) := by decide +kernel
theorem dL_law_485 : decode cL_law 485 = .ok (.if_icmp .eq 271, 3) := by decide +kernel
theorem dL_law_488 : decode cL_law 488 = .ok (.iconst 0, 1) := by decide +kernel
theorem dL_law_489 : decode cL_law 489 = .ok (.ireturn, 1) := by decide +kernel
theorem dL_law_490 : decode cL_law 490 = .ok (.aload_n 1, 1) := by decide +kernel
theorem dL_law_491 : decode cL_law 491 = .ok (.invokevirtual 66, 3) := by decide +kernel
theorem dL_law_494 : decode cL_law 494 = .ok (.aload_n 2, 1) := by decide +kernel
theorem dL_law_495 : decode cL_law 495 = .ok (.invokevirtual 69, 3) := by decide +kernel
theorem dL_law_498 : decode cL_law 498 = .ok (.if_icmp .eq 258, 3) := by decide +kernel
theorem dL_law_501 : decode cL_law 501 = .ok (.iconst 0, 1) := by decide +kernel
theorem dL_law_502 : decode cL_law 502 = .ok (.ireturn, 1) := by decide +kernel
theorem dL_law_503 : decode cL_law 503 = .ok (.aload_n 1, 1) := by decide +kernel
theorem dL_law_504 : decode cL_law 504 = .ok (.invokevirtual 70, 3) := by decide +kernel
theorem dL_law_507 : decode cL_law 507 = .ok (.aload_n 2, 1) := by decide +kernel
theorem dL_law_508 : decode cL_law 508 = .ok (.invokevirtual 73, 3) := by decide +kernel
theorem dL_law_511 : decode cL_law 511 = .ok (.if_icmp .eq 245, 3) := by decide +kernel
theorem dL_law_514 : decode cL_law 514 = .ok (.iconst 0, 1) := by decide +kernel
theorem dL_law_515 : decode cL_law 515 = .ok (.ireturn, 1) := by decide +kernel
theorem dL_law_516 : decode cL_law 516 = .ok (.aload_n 1, 1) := by decide +kernel
theorem dL_law_517 : decode cL_law 517 = .ok (.aload_n 0, 1) := by decide +kernel
theorem dL_law_518 : decode cL_law 518 = .ok (.iload_n 3, 1) := by decide +kernel
theorem dL_law_519 : decode cL_law 519 = .ok (.iconst 1, 1) := by decide +kernel
theorem dL_law_520 : decode cL_law 520 = .ok (.iadd, 1) := by decide +kernel
theorem dL_law_521 : decode cL_law 521 = .ok (.iaload, 1) := by decide +kernel
theorem dL_law_522 : decode cL_law 522 = .ok (.aload_n 0, 1) := by decide +kernel
theorem dL_law_523 : decode cL_law 523 = .ok (.iload_n 3, 1) := by decide +kernel
theorem dL_law_524 : decode cL_law 524 = .ok (.iconst 2, 1) := by decide +kernel
theorem dL_law_525 : decode cL_law 525 = .ok (.iadd, 1) := by decide +kernel
theorem dL_law_526 : decode cL_law 526 = .ok (.iaload, 1) := by decide +kernel
theorem dL_law_527 : decode cL_law 527 = .ok (.invokevirtual 74, 3) := by decide +kernel
theorem dL_law_530 : decode cL_law 530 = .ok (.aload_n 2, 1) := by decide +kernel
theorem dL_law_531 : decode cL_law 531 = .ok (.aload_n 0, 1) := by decide +kernel
theorem dL_law_532 : decode cL_law 532 = .ok (.iload_n 3, 1) := by decide +kernel
theorem dL_law_533 : decode cL_law 533 = .ok (.iconst 1, 1) := by decide +kernel
theorem dL_law_534 : decode cL_law 534 = .ok (.iadd, 1) := by decide +kernel
theorem dL_law_535 : decode cL_law 535 = .ok (.iaload, 1) := by decide +kernel
theorem dL_law_536 : decode cL_law 536 = .ok (.aload_n 0, 1) := by decide +kernel
theorem dL_law_537 : decode cL_law 537 = .ok (.iload_n 3, 1) := by decide +kernel
theorem dL_law_538 : decode cL_law 538 = .ok (.iconst 2, 1) := by decide +kernel
theorem dL_law_539 : decode cL_law 539 = .ok (.iadd, 1) := by decide +kernel
theorem dL_law_540 : decode cL_law 540 = .ok (.iaload, 1) := by decide +kernel
theorem dL_law_541 : decode cL_law 541 = .ok (.invokevirtual 78, 3) := by decide +kernel
theorem dL_law_544 : decode cL_law 544 = .ok (.if_icmp .eq 212, 3) := by decide +kernel
theorem dL_law_547 : decode cL_law 547 = .ok (.iconst 0, 1) := by decide +kernel
theorem dL_law_548 : decode cL_law 548 = .ok (.ireturn, 1) := by decide +kernel
theorem dL_law_549 : decode cL_law 549 = .ok (.aload_n 1, 1) := by decide +kernel
theorem dL_law_550 : decode cL_law 550 = .ok (.invokevirtual 79, 3) := by decide +kernel
theorem dL_law_553 : decode cL_law 553 = .ok (.aload_n 2, 1) := by decide +kernel
theorem dL_law_554 : decode cL_law 554 = .ok (.invokevirtual 82, 3) := by decide +kernel
theorem dL_law_557 : decode cL_law 557 = .ok (.if_icmp .eq 199, 3) := by decide +kernel
theorem dL_law_560 : decode cL_law 560 = .ok (.iconst 0, 1) := by decide +kernel
theorem dL_law_561 : decode cL_law 561 = .ok (.ireturn, 1) := by decide +kernel
theorem dL_law_562 : decode cL_law 562 = .ok (.aload_n 1, 1) := by decide +kernel
theorem dL_law_563 : decode cL_law 563 = .ok (.invokevirtual 83, 3) := by decide +kernel
theorem dL_law_566 : decode cL_law 566 = .ok (.aload_n 2, 1) := by decide +kernel
theorem dL_law_567 : decode cL_law 567 = .ok (.invokevirtual 86, 3) := by decide +kernel
theorem dL_law_570 : decode cL_law 570 = .ok (.if_icmp .eq 186, 3) := by decide +kernel
theorem dL_law_573 : decode cL_law 573 = .ok (.iconst 0, 1) := by decide +kernel
theorem dL_law_574 : decode cL_law 574 = .ok (.ireturn, 1) := by decide +kernel
theorem dL_law_575 : decode cL_law 575 = .ok (.aload_n 1, 1) := by decide +kernel
theorem dL_law_576 : decode cL_law 576 = .ok (.invokevirtual 87, 3) := by decide +kernel
theorem dL_law_579 : decode cL_law 579 = .ok (.aload_n 2, 1) := by decide +kernel
theorem dL_law_580 : decode cL_law 580 = .ok (.invokevirtual 90, 3) := by decide +kernel
theorem dL_law_583 : decode cL_law 583 = .ok (.if_icmp .eq 173, 3) := by decide +kernel
theorem dL_law_586 : decode cL_law 586 = .ok (.iconst 0, 1) := by decide +kernel
theorem dL_law_587 : decode cL_law 587 = .ok (.ireturn, 1) := by decide +kernel
theorem dL_law_588 : decode cL_law 588 = .ok (.aload_n 1, 1) := by decide +kernel
theorem dL_law_589 : decode cL_law 589 = .ok (.aload_n 0, 1) := by decide +kernel
theorem dL_law_590 : decode cL_law 590 = .ok (.iload_n 3, 1) := by decide +kernel
theorem dL_law_591 : decode cL_law 591 = .ok (.iconst 1, 1) := by decide +kernel
theorem dL_law_592 : decode cL_law 592 = .ok (.iadd, 1) := by decide +kernel
theorem dL_law_593 : decode cL_law 593 = .ok (.iaload, 1) := by decide +kernel
theorem dL_law_594 : decode cL_law 594 = .ok (.aload_n 0, 1) := by decide +kernel
theorem dL_law_595 : decode cL_law 595 = .ok (.iload_n 3, 1) := by decide +kernel
theorem dL_law_596 : decode cL_law 596 = .ok (.iconst 2, 1) := by decide +kernel
theorem dL_law_597 : decode cL_law 597 = .ok (.iadd, 1) := by decide +kernel
theorem dL_law_598 : decode cL_law 598 = .ok (.iaload, 1) := by decide +kernel
theorem dL_law_599 : decode cL_law 599 = .ok (.invokevirtual 91, 3) := by decide +kernel
theorem dL_law_602 : decode cL_law 602 = .ok (.aload_n 2, 1) := by decide +kernel
theorem dL_law_603 : decode cL_law 603 = .ok (.aload_n 0, 1) := by decide +kernel
theorem dL_law_604 : decode cL_law 604 = .ok (.iload_n 3, 1) := by decide +kernel
theorem dL_law_605 : decode cL_law 605 = .ok (.iconst 1, 1) := by decide +kernel
theorem dL_law_606 : decode cL_law 606 = .ok (.iadd, 1) := by decide +kernel
theorem dL_law_607 : decode cL_law 607 = .ok (.iaload, 1) := by decide +kernel
theorem dL_law_608 : decode cL_law 608 = .ok (.aload_n 0, 1) := by decide +kernel
theorem dL_law_609 : decode cL_law 609 = .ok (.iload_n 3, 1) := by decide +kernel
theorem dL_law_610 : decode cL_law 610 = .ok (.iconst 2, 1) := by decide +kernel
theorem dL_law_611 : decode cL_law 611 = .ok (.iadd, 1) := by decide +kernel
theorem dL_law_612 : decode cL_law 612 = .ok (.iaload, 1) := by decide +kernel
theorem dL_law_613 : decode cL_law 613 = .ok (.invokevirtual 94, 3) := by decide +kernel
theorem dL_law_616 : decode cL_law 616 = .ok (.if_icmp .eq 140, 3) := by decide +kernel
theorem dL_law_619 : decode cL_law 619 = .ok (.iconst 0, 1) := by decide +kernel
theorem dL_law_620 : decode cL_law 620 = .ok (.ireturn, 1) := by decide +kernel
theorem dL_law_621 : decode cL_law 621 = .ok (.aload_n 1, 1) := by decide +kernel
theorem dL_law_622 : decode cL_law 622 = .ok (.invokevirtual 95, 3) := by decide +kernel
theorem dL_law_625 : decode cL_law 625 = .ok (.aload_n 2, 1) := by decide +kernel
theorem dL_law_626 : decode cL_law 626 = .ok (.invokevirtual 98, 3) := by decide +kernel
theorem dL_law_629 : decode cL_law 629 = .ok (.if_icmp .eq 127, 3) := by decide +kernel
theorem dL_law_632 : decode cL_law 632 = .ok (.iconst 0, 1) := by decide +kernel
theorem dL_law_633 : decode cL_law 633 = .ok (.ireturn, 1) := by decide +kernel
theorem dL_law_634 : decode cL_law 634 = .ok (.aload_n 1, 1) := by decide +kernel
theorem dL_law_635 : decode cL_law 635 = .ok (.aload_n 0, 1) := by decide +kernel
theorem dL_law_636 : decode cL_law 636 = .ok (.iload_n 3, 1) := by decide +kernel
theorem dL_law_637 : decode cL_law 637 = .ok (.iconst 1, 1) := by decide +kernel
theorem dL_law_638 : decode cL_law 638 = .ok (.iadd, 1) := by decide +kernel
theorem dL_law_639 : decode cL_law 639 = .ok (.iaload, 1) := by decide +kernel
theorem dL_law_640 : decode cL_law 640 = .ok (.aload_n 0, 1) := by decide +kernel
theorem dL_law_641 : decode cL_law 641 = .ok (.iload_n 3, 1) := by decide +kernel
theorem dL_law_642 : decode cL_law 642 = .ok (.iconst 2, 1) := by decide +kernel
theorem dL_law_643 : decode cL_law 643 = .ok (.iadd, 1) := by decide +kernel
theorem dL_law_644 : decode cL_law 644 = .ok (.iaload, 1) := by decide +kernel
theorem dL_law_645 : decode cL_law 645 = .ok (.invokevirtual 99, 3) := by decide +kernel
theorem dL_law_648 : decode cL_law 648 = .ok (.aload_n 2, 1) := by decide +kernel
theorem dL_law_649 : decode cL_law 649 = .ok (.aload_n 0, 1) := by decide +kernel
theorem dL_law_650 : decode cL_law 650 = .ok (.iload_n 3, 1) := by decide +kernel
theorem dL_law_651 : decode cL_law 651 = .ok (.iconst 1, 1) := by decide +kernel
theorem dL_law_652 : decode cL_law 652 = .ok (.iadd, 1) := by decide +kernel
theorem dL_law_653 : decode cL_law 653 = .ok (.iaload, 1) := by decide +kernel
theorem dL_law_654 : decode cL_law 654 = .ok (.aload_n 0, 1) := by decide +kernel
theorem dL_law_655 : decode cL_law 655 = .ok (.iload_n 3, 1) := by decide +kernel
theorem dL_law_656 : decode cL_law 656 = .ok (.iconst 2, 1) := by decide +kernel
theorem dL_law_657 : decode cL_law 657 = .ok (.iadd, 1) := by decide +kernel
theorem dL_law_658 : decode cL_law 658 = .ok (.iaload, 1) := by decide +kernel
theorem dL_law_659 : decode cL_law 659 = .ok (.invokevirtual 102, 3) := by decide +kernel
theorem dL_law_662 : decode cL_law 662 = .ok (.if_icmp .eq 94, 3) := by decide +kernel
theorem dL_law_665 : decode cL_law 665 = .ok (.iconst 0, 1) := by decide +kernel
theorem dL_law_666 : decode cL_law 666 = .ok (.ireturn, 1) := by decide +kernel
theorem dL_law_667 : decode cL_law 667 = .ok (.aload_n 1, 1) := by decide +kernel
theorem dL_law_668 : decode cL_law 668 = .ok (.aload_n 0, 1) := by decide +kernel
theorem dL_law_669 : decode cL_law 669 = .ok (.iload_n 3, 1) := by decide +kernel
theorem dL_law_670 : decode cL_law 670 = .ok (.iconst 1, 1) := by decide +kernel
theorem dL_law_671 : decode cL_law 671 = .ok (.iadd, 1) := by decide +kernel
theorem dL_law_672 : decode cL_law 672 = .ok (.iaload, 1) := by decide +kernel
theorem dL_law_673 : decode cL_law 673 = .ok (.aload_n 0, 1) := by decide +kernel
theorem dL_law_674 : decode cL_law 674 = .ok (.iload_n 3, 1) := by decide +kernel
theorem dL_law_675 : decode cL_law 675 = .ok (.iconst 2, 1) := by decide +kernel
theorem dL_law_676 : decode cL_law 676 = .ok (.iadd, 1) := by decide +kernel
theorem dL_law_677 : decode cL_law 677 = .ok (.iaload, 1) := by decide +kernel
theorem dL_law_678 : decode cL_law 678 = .ok (.aload_n 0, 1) := by decide +kernel
theorem dL_law_679 : decode cL_law 679 = .ok (.iload_n 3, 1) := by decide +kernel
theorem dL_law_680 : decode cL_law 680 = .ok (.iconst 3, 1) := by decide +kernel
theorem dL_law_681 : decode cL_law 681 = .ok (.iadd, 1) := by decide +kernel
theorem dL_law_682 : decode cL_law 682 = .ok (.iaload, 1) := by decide +kernel
theorem dL_law_683 : decode cL_law 683 = .ok (.invokevirtual 103, 3) := by decide +kernel
theorem dL_law_686 : decode cL_law 686 = .ok (.aload_n 2, 1) := by decide +kernel
theorem dL_law_687 : decode cL_law 687 = .ok (.aload_n 0, 1) := by decide +kernel
theorem dL_law_688 : decode cL_law 688 = .ok (.iload_n 3, 1) := by decide +kernel
theorem dL_law_689 : decode cL_law 689 = .ok (.iconst 1, 1) := by decide +kernel
theorem dL_law_690 : decode cL_law 690 = .ok (.iadd, 1) := by decide +kernel
theorem dL_law_691 : decode cL_law 691 = .ok (.iaload, 1) := by decide +kernel
theorem dL_law_692 : decode cL_law 692 = .ok (.aload_n 0, 1) := by decide +kernel
theorem dL_law_693 : decode cL_law 693 = .ok (.iload_n 3, 1) := by decide +kernel
theorem dL_law_694 : decode cL_law 694 = .ok (.iconst 2, 1) := by decide +kernel
theorem dL_law_695 : decode cL_law 695 = .ok (.iadd, 1) := by decide +kernel
theorem dL_law_696 : decode cL_law 696 = .ok (.iaload, 1) := by decide +kernel
theorem dL_law_697 : decode cL_law 697 = .ok (.aload_n 0, 1) := by decide +kernel
theorem dL_law_698 : decode cL_law 698 = .ok (.iload_n 3, 1) := by decide +kernel
theorem dL_law_699 : decode cL_law 699 = .ok (.iconst 3, 1) := by decide +kernel
theorem dL_law_700 : decode cL_law 700 = .ok (.iadd, 1) := by decide +kernel
theorem dL_law_701 : decode cL_law 701 = .ok (.iaload, 1) := by decide +kernel
theorem dL_law_702 : decode cL_law 702 = .ok (.invokevirtual 106, 3) := by decide +kernel
theorem dL_law_705 : decode cL_law 705 = .ok (.if_icmp .eq 51, 3) := by decide +kernel
theorem dL_law_708 : decode cL_law 708 = .ok (.iconst 0, 1) := by decide +kernel
theorem dL_law_709 : decode cL_law 709 = .ok (.ireturn, 1) := by decide +kernel
theorem dL_law_710 : decode cL_law 710 = .ok (.aload_n 1, 1) := by decide +kernel
theorem dL_law_711 : decode cL_law 711 = .ok (.aload_n 0, 1) := by decide +kernel
theorem dL_law_712 : decode cL_law 712 = .ok (.iload_n 3, 1) := by decide +kernel
theorem dL_law_713 : decode cL_law 713 = .ok (.iconst 1, 1) := by decide +kernel
theorem dL_law_714 : decode cL_law 714 = .ok (.iadd, 1) := by decide +kernel
theorem dL_law_715 : decode cL_law 715 = .ok (.iaload, 1) := by decide +kernel
theorem dL_law_716 : decode cL_law 716 = .ok (.invokevirtual 107, 3) := by decide +kernel
theorem dL_law_719 : decode cL_law 719 = .ok (.aload_n 2, 1) := by decide +kernel
theorem dL_law_720 : decode cL_law 720 = .ok (.aload_n 0, 1) := by decide +kernel
theorem dL_law_721 : decode cL_law 721 = .ok (.iload_n 3, 1) := by decide +kernel
theorem dL_law_722 : decode cL_law 722 = .ok (.iconst 1, 1) := by decide +kernel
theorem dL_law_723 : decode cL_law 723 = .ok (.iadd, 1) := by decide +kernel
theorem dL_law_724 : decode cL_law 724 = .ok (.iaload, 1) := by decide +kernel
theorem dL_law_725 : decode cL_law 725 = .ok (.invokevirtual 110, 3) := by decide +kernel
theorem dL_law_728 : decode cL_law 728 = .ok (.if_icmp .eq 28, 3) := by decide +kernel
theorem dL_law_731 : decode cL_law 731 = .ok (.iconst 0, 1) := by decide +kernel
theorem dL_law_732 : decode cL_law 732 = .ok (.ireturn, 1) := by decide +kernel
theorem dL_law_733 : decode cL_law 733 = .ok (.aload_n 1, 1) := by decide +kernel
theorem dL_law_734 : decode cL_law 734 = .ok (.aload_n 0, 1) := by decide +kernel
theorem dL_law_735 : decode cL_law 735 = .ok (.iload_n 3, 1) := by decide +kernel
theorem dL_law_736 : decode cL_law 736 = .ok (.iconst 1, 1) := by decide +kernel
theorem dL_law_737 : decode cL_law 737 = .ok (.iadd, 1) := by decide +kernel
theorem dL_law_738 : decode cL_law 738 = .ok (.iaload, 1) := by decide +kernel
theorem dL_law_739 : decode cL_law 739 = .ok (.invokevirtual 111, 3) := by decide +kernel
theorem dL_law_742 : decode cL_law 742 = .ok (.aload_n 2, 1) := by decide +kernel
theorem dL_law_743 : decode cL_law 743 = .ok (.aload_n 0, 1) := by decide +kernel
theorem dL_law_744 : decode cL_law 744 = .ok (.iload_n 3, 1) := by decide +kernel
theorem dL_law_745 : decode cL_law 745 = .ok (.iconst 1, 1) := by decide +kernel
theorem dL_law_746 : decode cL_law 746 = .ok (.iadd, 1) := by decide +kernel
theorem dL_law_747 : decode cL_law 747 = .ok (.iaload, 1) := by decide +kernel
theorem dL_law_748 : decode cL_law 748 = .ok (.invokevirtual 114, 3) := by decide +kernel
theorem dL_law_751 : decode cL_law 751 = .ok (.if_icmp .eq 5, 3) := by decide +kernel
theorem dL_law_754 : decode cL_law 754 = .ok (.iconst 0, 1) := by decide +kernel
theorem dL_law_755 : decode cL_law 755 = .ok (.ireturn, 1) := by decide +kernel
theorem dL_law_756 : decode cL_law 756 = .ok (.iinc 3 6, 3) := by decide +kernel
theorem dL_law_759 : decode cL_law 759 = .ok (.goto (-741), 3) := by decide +kernel
theorem dL_law_762 : decode cL_law 762 = .ok (.iconst 1, 1) := by decide +kernel
theorem dL_law_763 : decode cL_law 763 = .ok (.ireturn, 1) := by decide +kernel
