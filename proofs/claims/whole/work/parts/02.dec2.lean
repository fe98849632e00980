theorem dX11_init_135 : decode cX11_init 135 = .ok (.putfield 62, 3) := by decide +kernel
theorem dX11_init_138 : decode cX11_init 138 = .ok (.aload_n 0, 1) := by decide +kernel
theorem dX11_init_139 : decode cX11_init 139 = .ok (.iconst 5, 1) := by decide +kernel
theorem dX11_init_140 : decode cX11_init 140 = .ok (.newarray .int, 2) := by decide +kernel
theorem dX11_init_142 : decode cX11_init 142 = .ok (.putfield 65, 3) := by decide +kernel
theorem dX11_init_145 : decode cX11_init 145 = .ok (.aload_n 0, 1) := by decide +kernel
theorem dX11_init_146 : decode cX11_init 146 = .ok (.iconst 5, 1) := by decide +kernel
theorem dX11_init_147 : decode cX11_init 147 = .ok (.newarray .int, 2) := by decide +kernel
theorem dX11_init_149 : decode cX11_init 149 = .ok (.putfield 68, 3) := by decide +kernel
theorem dX11_init_152 : decode cX11_init 152 = .ok (.aload_n 0, 1) := by decide +kernel
theorem dX11_init_153 : decode cX11_init 153 = .ok (.sipush 369, 3) := by decide +kernel
theorem dX11_init_156 : decode cX11_init 156 = .ok (.newarray .int, 2) := by decide +kernel
theorem dX11_init_158 : decode cX11_init 158 = .ok (.putfield 71, 3) := by decide +kernel
theorem dX11_init_161 : decode cX11_init 161 = .ok (.aload_n 0, 1) := by decide +kernel
theorem dX11_init_162 : decode cX11_init 162 = .ok (.bipush 40, 2) := by decide +kernel
theorem dX11_init_164 : decode cX11_init 164 = .ok (.newarray .int, 2) := by decide +kernel
theorem dX11_init_166 : decode cX11_init 166 = .ok (.putfield 74, 3) := by decide +kernel
theorem dX11_init_169 : decode cX11_init 169 = .ok (.aload_n 0, 1) := by decide +kernel
theorem dX11_init_170 : decode cX11_init 170 = .ok (.bipush 41, 2) := by decide +kernel
theorem dX11_init_172 : decode cX11_init 172 = .ok (.newarray .int, 2) := by decide +kernel
theorem dX11_init_174 : decode cX11_init 174 = .ok (.putfield 77, 3) := by decide +kernel
theorem dX11_init_177 : decode cX11_init 177 = .ok (.aload_n 0, 1) := by decide +kernel
theorem dX11_init_178 : decode cX11_init 178 = .ok (.bipush 41, 2) := by decide +kernel
theorem dX11_init_180 : decode cX11_init 180 = .ok (.newarray .int, 2) := by decide +kernel
theorem dX11_init_182 : decode cX11_init 182 = .ok (.putfield 80, 3) := by decide +kernel
theorem dX11_init_185 : decode cX11_init 185 = .ok (.aload_n 0, 1) := by decide +kernel
theorem dX11_init_186 : decode cX11_init 186 = .ok (.sipush 3936, 3) := by decide +kernel
theorem dX11_init_189 : decode cX11_init 189 = .ok (.newarray .int, 2) := by decide +kernel
theorem dX11_init_191 : decode cX11_init 191 = .ok (.putfield 83, 3) := by decide +kernel
theorem dX11_init_194 : decode cX11_init 194 = .ok (.aload_n 0, 1) := by decide +kernel
theorem dX11_init_195 : decode cX11_init 195 = .ok (.sipush 533, 3) := by decide +kernel
theorem dX11_init_198 : decode cX11_init 198 = .ok (.newarray .int, 2) := by decide +kernel
theorem dX11_init_200 : decode cX11_init 200 = .ok (.putfield 86, 3) := by decide +kernel
theorem dX11_init_203 : decode cX11_init 203 = .ok (.iconst 0, 1) := by decide +kernel
theorem dX11_init_204 : decode cX11_init 204 = .ok (.istore_n 1, 1) := by decide +kernel
theorem dX11_init_205 : decode cX11_init 205 = .ok (.iload_n 1, 1) := by decide +kernel
theorem dX11_init_206 : decode cX11_init 206 = .ok (.bipush 48, 2) := by decide +kernel
theorem dX11_init_208 : decode cX11_init 208 = .ok (.if_icmp .ge 17, 3) := by decide +kernel
theorem dX11_init_211 : decode cX11_init 211 = .ok (.aload_n 0, 1) := by decide +kernel
theorem dX11_init_212 : decode cX11_init 212 = .ok (.getfield 13, 3) := by decide +kernel
theorem dX11_init_215 : decode cX11_init 215 = .ok (.iload_n 1, 1) := by decide +kernel
theorem dX11_init_216 : decode cX11_init 216 = .ok (.bipush 25, 2) := by decide +kernel
theorem dX11_init_218 : decode cX11_init 218 = .ok (.iastore, 1) := by decide +kernel
theorem dX11_init_219 : decode cX11_init 219 = .ok (.iinc 1 1, 3) := by decide +kernel
theorem dX11_init_222 : decode cX11_init 222 = .ok (.goto (-17), 3) := by decide +kernel
theorem dX11_init_225 : decode cX11_init 225 = .ok (.return_, 1) := by decide +kernel
theorem dX11_in_0 : decode cX11_in 0 = .ok (.iload_n 0, 1) := by decide +kernel
theorem dX11_in_1 : decode cX11_in 1 = .ok (.iload_n 1, 1) := by decide +kernel
theorem dX11_in_2 : decode cX11_in 2 = .ok (.if_icmp .lt 12, 3) := by decide +kernel
theorem dX11_in_5 : decode cX11_in 5 = .ok (.iload_n 0, 1) := by decide +kernel
theorem dX11_in_6 : decode cX11_in 6 = .ok (.iload_n 2, 1) := by decide +kernel
theorem dX11_in_7 : decode cX11_in 7 = .ok (.if_icmp .gt 7, 3) := by decide +kernel
theorem dX11_in_10 : decode cX11_in 10 = .ok (.iconst 1, 1) := by decide +kernel
theorem dX11_in_11 : decode cX11_in 11 = .ok (.goto 4, 3) := by decide +kernel
theorem dX11_in_14 : decode cX11_in 14 = .ok (.iconst 0, 1) := by decide +kernel
theorem dX11_in_15 : decode cX11_in 15 = .ok (.ireturn, 1) := by decide +kernel
theorem dX11_lesser_0 : decode cX11_lesser 0 = .ok (.iload_n 0, 1) := by decide +kernel
theorem dX11_lesser_1 : decode cX11_lesser 1 = .ok (.iload_n 1, 1) := by decide +kernel
theorem dX11_lesser_2 : decode cX11_lesser 2 = .ok (.if_icmp .ge 7, 3) := by decide +kernel
theorem dX11_lesser_5 : decode cX11_lesser 5 = .ok (.iload_n 0, 1) := by decide +kernel
theorem dX11_lesser_6 : decode cX11_lesser 6 = .ok (.goto 4, 3) := by decide +kernel
theorem dX11_lesser_9 : decode cX11_lesser 9 = .ok (.iload_n 1, 1) := by decide +kernel
theorem dX11_lesser_10 : decode cX11_lesser 10 = .ok (.ireturn, 1) := by decide +kernel
theorem dX11_feed_0 : decode cX11_feed 0 = .ok (.iload_n 1, 1) := by decide +kernel
theorem dX11_feed_1 : decode cX11_feed 1 = .ok (.iconst (-1), 1) := by decide +kernel
theorem dX11_feed_2 : decode cX11_feed 2 = .ok (.bipush 7, 2) := by decide +kernel
theorem dX11_feed_4 : decode cX11_feed 4 = .ok (.invokestatic 89, 3) := by decide +kernel
theorem dX11_feed_7 : decode cX11_feed 7 = .ok (.ifCond .ne 6, 3) := by decide +kernel
theorem dX11_feed_10 : decode cX11_feed 10 = .ok (.bipush (-2), 2) := by decide +kernel
theorem dX11_feed_12 : decode cX11_feed 12 = .ok (.ireturn, 1) := by decide +kernel
theorem dX11_feed_13 : decode cX11_feed 13 = .ok (.aload_n 0, 1) := by decide +kernel
theorem dX11_feed_14 : decode cX11_feed 14 = .ok (.getfield 93, 3) := by decide +kernel
theorem dX11_feed_17 : decode cX11_feed 17 = .ok (.bipush 40, 2) := by decide +kernel
theorem dX11_feed_19 : decode cX11_feed 19 = .ok (.if_icmp .ne 6, 3) := by decide +kernel
theorem dX11_feed_22 : decode cX11_feed 22 = .ok (.bipush (-4), 2) := by decide +kernel
theorem dX11_feed_24 : decode cX11_feed 24 = .ok (.ireturn, 1) := by decide +kernel
theorem dX11_feed_25 : decode cX11_feed 25 = .ok (.aload_n 0, 1) := by decide +kernel
theorem dX11_feed_26 : decode cX11_feed 26 = .ok (.getfield 7, 3) := by decide +kernel
theorem dX11_feed_29 : decode cX11_feed 29 = .ok (.aload_n 0, 1) := by decide +kernel
theorem dX11_feed_30 : decode cX11_feed 30 = .ok (.getfield 93, 3) := by decide +kernel
theorem dX11_feed_33 : decode cX11_feed 33 = .ok (.iload_n 1, 1) := by decide +kernel
theorem dX11_feed_34 : decode cX11_feed 34 = .ok (.iastore, 1) := by decide +kernel
theorem dX11_feed_35 : decode cX11_feed 35 = .ok (.aload_n 0, 1) := by decide +kernel
theorem dX11_feed_36 : decode cX11_feed 36 = .ok (.dup, 1) := by decide +kernel
theorem dX11_feed_37 : decode cX11_feed 37 = .ok (.getfield 93, 3) := by decide +kernel
theorem dX11_feed_40 : decode cX11_feed 40 = .ok (.iconst 1, 1) := by decide +kernel
theorem dX11_feed_41 : decode cX11_feed 41 = .ok (.iadd, 1) := by decide +kernel
theorem dX11_feed_42 : decode cX11_feed 42 = .ok (.putfield 93, 3) := by decide +kernel
theorem dX11_feed_45 : decode cX11_feed 45 = .ok (.aload_n 0, 1) := by decide +kernel
theorem dX11_feed_46 : decode cX11_feed 46 = .ok (.iconst 0, 1) := by decide +kernel
theorem dX11_feed_47 : decode cX11_feed 47 = .ok (.putfield 96, 3) := by decide +kernel
theorem dX11_feed_50 : decode cX11_feed 50 = .ok (.aload_n 0, 1) := by decide +kernel
theorem dX11_feed_51 : decode cX11_feed 51 = .ok (.getfield 93, 3) := by decide +kernel
theorem dX11_feed_54 : decode cX11_feed 54 = .ok (.ireturn, 1) := by decide +kernel
theorem dX11_hush_0 : decode cX11_hush 0 = .ok (.aload_n 0, 1) := by decide +kernel
theorem dX11_hush_1 : decode cX11_hush 1 = .ok (.getfield 93, 3) := by decide +kernel
theorem dX11_hush_4 : decode cX11_hush 4 = .ok (.istore_n 1, 1) := by decide +kernel
theorem dX11_hush_5 : decode cX11_hush 5 = .ok (.aload_n 0, 1) := by decide +kernel
theorem dX11_hush_6 : decode cX11_hush 6 = .ok (.iconst 0, 1) := by decide +kernel
theorem dX11_hush_7 : decode cX11_hush 7 = .ok (.putfield 93, 3) := by decide +kernel
theorem dX11_hush_10 : decode cX11_hush 10 = .ok (.aload_n 0, 1) := by decide +kernel
theorem dX11_hush_11 : decode cX11_hush 11 = .ok (.iconst 0, 1) := by decide +kernel
theorem dX11_hush_12 : decode cX11_hush 12 = .ok (.putfield 96, 3) := by decide +kernel
theorem dX11_hush_15 : decode cX11_hush 15 = .ok (.iload_n 1, 1) := by decide +kernel
theorem dX11_hush_16 : decode cX11_hush 16 = .ok (.ireturn, 1) := by decide +kernel
theorem dX11_cost_0 : decode cX11_cost 0 = .ok (.iload_n 1, 1) := by decide +kernel
theorem dX11_cost_1 : decode cX11_cost 1 = .ok (.iconst 0, 1) := by decide +kernel
theorem dX11_cost_2 : decode cX11_cost 2 = .ok (.iconst 5, 1) := by decide +kernel
theorem dX11_cost_3 : decode cX11_cost 3 = .ok (.invokestatic 89, 3) := by decide +kernel
theorem dX11_cost_6 : decode cX11_cost 6 = .ok (.ifCond .eq 23, 3) := by decide +kernel
theorem dX11_cost_9 : decode cX11_cost 9 = .ok (.iload_n 2, 1) := by decide +kernel
theorem dX11_cost_10 : decode cX11_cost 10 = .ok (.iconst 0, 1) := by decide +kernel
theorem dX11_cost_11 : decode cX11_cost 11 = .ok (.bipush 7, 2) := by decide +kernel
theorem dX11_cost_13 : decode cX11_cost 13 = .ok (.invokestatic 89, 3) := by decide +kernel
theorem dX11_cost_16 : decode cX11_cost 16 = .ok (.ifCond .eq 13, 3) := by decide +kernel
theorem dX11_cost_19 : decode cX11_cost 19 = .ok (.iload_n 3, 1) := by decide +kernel
theorem dX11_cost_20 : decode cX11_cost 20 = .ok (.iconst 0, 1) := by decide +kernel
theorem dX11_cost_21 : decode cX11_cost 21 = .ok (.bipush 50, 2) := by decide +kernel
theorem dX11_cost_23 : decode cX11_cost 23 = .ok (.invokestatic 89, 3) := by decide +kernel
theorem dX11_cost_26 : decode cX11_cost 26 = .ok (.ifCond .ne 6, 3) := by decide +kernel
theorem dX11_cost_29 : decode cX11_cost 29 = .ok (.bipush (-2), 2) := by decide +kernel
theorem dX11_cost_31 : decode cX11_cost 31 = .ok (.ireturn, 1) := by decide +kernel
theorem dX11_cost_32 : decode cX11_cost 32 = .ok (.aload_n 0, 1) := by decide +kernel
theorem dX11_cost_33 : decode cX11_cost 33 = .ok (.getfield 13, 3) := by decide +kernel
theorem dX11_cost_36 : decode cX11_cost 36 = .ok (.bipush 8, 2) := by decide +kernel
theorem dX11_cost_38 : decode cX11_cost 38 = .ok (.iload_n 1, 1) := by decide +kernel
theorem dX11_cost_39 : decode cX11_cost 39 = .ok (.imul, 1) := by decide +kernel
theorem dX11_cost_40 : decode cX11_cost 40 = .ok (.iload_n 2, 1) := by decide +kernel
theorem dX11_cost_41 : decode cX11_cost 41 = .ok (.iadd, 1) := by decide +kernel
theorem dX11_cost_42 : decode cX11_cost 42 = .ok (.iaload, 1) := by decide +kernel
theorem dX11_cost_43 : decode cX11_cost 43 = .ok (.istore 4, 2) := by decide +kernel
theorem dX11_cost_45 : decode cX11_cost 45 = .ok (.aload_n 0, 1) := by decide +kernel
theorem dX11_cost_46 : decode cX11_cost 46 = .ok (.getfield 13, 3) := by decide +kernel
theorem dX11_cost_49 : decode cX11_cost 49 = .ok (.bipush 8, 2) := by decide +kernel
theorem dX11_cost_51 : decode cX11_cost 51 = .ok (.iload_n 1, 1) := by decide +kernel
theorem dX11_cost_52 : decode cX11_cost 52 = .ok (.imul, 1) := by decide +kernel
theorem dX11_cost_53 : decode cX11_cost 53 = .ok (.iload_n 2, 1) := by decide +kernel
theorem dX11_cost_54 : decode cX11_cost 54 = .ok (.iadd, 1) := by decide +kernel
theorem dX11_cost_55 : decode cX11_cost 55 = .ok (.iload_n 3, 1) := by decide +kernel
theorem dX11_cost_56 : decode cX11_cost 56 = .ok (.iastore, 1) := by decide +kernel
theorem dX11_cost_57 : decode cX11_cost 57 = .ok (.aload_n 0, 1) := by decide +kernel
theorem dX11_cost_58 : decode cX11_cost 58 = .ok (.iconst 0, 1) := by decide +kernel
theorem dX11_cost_59 : decode cX11_cost 59 = .ok (.putfield 96, 3) := by decide +kernel
theorem dX11_cost_62 : decode cX11_cost 62 = .ok (.iload 4, 2) := by decide +kernel
theorem dX11_cost_64 : decode cX11_cost 64 = .ok (.ireturn, 1) := by decide +kernel
theorem dX11_stay_0 : decode cX11_stay 0 = .ok (.iload_n 1, 1) := by decide +kernel
theorem dX11_stay_1 : decode cX11_stay 1 = .ok (.iconst 0, 1) := by decide +kernel
theorem dX11_stay_2 : decode cX11_stay 2 = .ok (.bipush 20, 2) := by decide +kernel
theorem dX11_stay_4 : decode cX11_stay 4 = .ok (.invokestatic 89, 3) := by decide +kernel
theorem dX11_stay_7 : decode cX11_stay 7 = .ok (.ifCond .ne 6, 3) := by decide +kernel
theorem dX11_stay_10 : decode cX11_stay 10 = .ok (.bipush (-2), 2) := by decide +kernel
theorem dX11_stay_12 : decode cX11_stay 12 = .ok (.ireturn, 1) := by decide +kernel
theorem dX11_stay_13 : decode cX11_stay 13 = .ok (.aload_n 0, 1) := by decide +kernel
theorem dX11_stay_14 : decode cX11_stay 14 = .ok (.getfield 16, 3) := by decide +kernel
theorem dX11_stay_17 : decode cX11_stay 17 = .ok (.istore_n 2, 1) := by decide +kernel
theorem dX11_stay_18 : decode cX11_stay 18 = .ok (.aload_n 0, 1) := by decide +kernel
theorem dX11_stay_19 : decode cX11_stay 19 = .ok (.iload_n 1, 1) := by decide +kernel
theorem dX11_stay_20 : decode cX11_stay 20 = .ok (.putfield 16, 3) := by decide +kernel
theorem dX11_stay_23 : decode cX11_stay 23 = .ok (.aload_n 0, 1) := by decide +kernel
theorem dX11_stay_24 : decode cX11_stay 24 = .ok (.iconst 0, 1) := by decide +kernel
theorem dX11_stay_25 : decode cX11_stay 25 = .ok (.putfield 96, 3) := by decide +kernel
theorem dX11_stay_28 : decode cX11_stay 28 = .ok (.iload_n 2, 1) := by decide +kernel
theorem dX11_stay_29 : decode cX11_stay 29 = .ok (.ireturn, 1) := by decide +kernel
theorem dX11_manyOf_0 : decode cX11_manyOf 0 = .ok (.iload_n 0, 1) := by decide +kernel
theorem dX11_manyOf_1 : decode cX11_manyOf 1 = .ok (.iconst 0, 1) := by decide +kernel
theorem dX11_manyOf_2 : decode cX11_manyOf 2 = .ok (.iconst 5, 1) := by decide +kernel
theorem dX11_manyOf_3 : decode cX11_manyOf 3 = .ok (.invokestatic 89, 3) := by decide +kernel
theorem dX11_manyOf_6 : decode cX11_manyOf 6 = .ok (.ifCond .eq 54, 3) := by decide +kernel
theorem dX11_manyOf_9 : decode cX11_manyOf 9 = .ok (.iload_n 1, 1) := by decide +kernel
theorem dX11_manyOf_10 : decode cX11_manyOf 10 = .ok (.iconst (-1), 1) := by decide +kernel
theorem dX11_manyOf_11 : decode cX11_manyOf 11 = .ok (.iconst 5, 1) := by decide +kernel
theorem dX11_manyOf_12 : decode cX11_manyOf 12 = .ok (.invokestatic 89, 3) := by decide +kernel
theorem dX11_manyOf_15 : decode cX11_manyOf 15 = .ok (.ifCond .eq 45, 3) := by decide +kernel
theorem dX11_manyOf_18 : decode cX11_manyOf 18 = .ok (.iload_n 2, 1) := by decide +kernel
theorem dX11_manyOf_19 : decode cX11_manyOf 19 = .ok (.iconst (-1), 1) := by decide +kernel
theorem dX11_manyOf_20 : decode cX11_manyOf 20 = .ok (.iconst 5, 1) := by decide +kernel
theorem dX11_manyOf_21 : decode cX11_manyOf 21 = .ok (.invokestatic 89, 3) := by decide +kernel
theorem dX11_manyOf_24 : decode cX11_manyOf 24 = .ok (.ifCond .eq 36, 3) := by decide +kernel
theorem dX11_manyOf_27 : decode cX11_manyOf 27 = .ok (.iload_n 3, 1) := by decide +kernel
theorem dX11_manyOf_28 : decode cX11_manyOf 28 = .ok (.iconst (-1), 1) := by decide +kernel
theorem dX11_manyOf_29 : decode cX11_manyOf 29 = .ok (.iconst 5, 1) := by decide +kernel
theorem dX11_manyOf_30 : decode cX11_manyOf 30 = .ok (.invokestatic 89, 3) := by decide +kernel
theorem dX11_manyOf_33 : decode cX11_manyOf 33 = .ok (.ifCond .eq 27, 3) := by decide +kernel
theorem dX11_manyOf_36 : decode cX11_manyOf 36 = .ok (.iload_n 1, 1) := by decide +kernel
theorem dX11_manyOf_37 : decode cX11_manyOf 37 = .ok (.iconst (-1), 1) := by decide +kernel
theorem dX11_manyOf_38 : decode cX11_manyOf 38 = .ok (.if_icmp .ne 8, 3) := by decide +kernel
theorem dX11_manyOf_41 : decode cX11_manyOf 41 = .ok (.iload_n 2, 1) := by decide +kernel
theorem dX11_manyOf_42 : decode cX11_manyOf 42 = .ok (.iconst (-1), 1) := by decide +kernel
theorem dX11_manyOf_43 : decode cX11_manyOf 43 = .ok (.if_icmp .ne 17, 3) := by decide +kernel
theorem dX11_manyOf_46 : decode cX11_manyOf 46 = .ok (.iload_n 2, 1) := by decide +kernel
theorem dX11_manyOf_47 : decode cX11_manyOf 47 = .ok (.iconst (-1), 1) := by decide +kernel
theorem dX11_manyOf_48 : decode cX11_manyOf 48 = .ok (.if_icmp .ne 8, 3) := by decide +kernel
theorem dX11_manyOf_51 : decode cX11_manyOf 51 = .ok (.iload_n 3, 1) := by decide +kernel
theorem dX11_manyOf_52 : decode cX11_manyOf 52 = .ok (.iconst (-1), 1) := by decide +kernel
theorem dX11_manyOf_53 : decode cX11_manyOf 53 = .ok (.if_icmp .ne 7, 3) := by decide +kernel
theorem dX11_manyOf_56 : decode cX11_manyOf 56 = .ok (.iconst 1, 1) := by decide +kernel
theorem dX11_manyOf_57 : decode cX11_manyOf 57 = .ok (.goto 4, 3) := by decide +kernel
theorem dX11_manyOf_60 : decode cX11_manyOf 60 = .ok (.iconst 0, 1) := by decide +kernel
theorem dX11_manyOf_61 : decode cX11_manyOf 61 = .ok (.istore 4, 2) := by decide +kernel
theorem dX11_manyOf_63 : decode cX11_manyOf 63 = .ok (.iload 4, 2) := by decide +kernel
theorem dX11_manyOf_65 : decode cX11_manyOf 65 = .ok (.ifCond .ne 7, 3) := by decide +kernel
theorem dX11_manyOf_68 : decode cX11_manyOf 68 = .ok (.iconst (-1), 1) := by decide +kernel
theorem dX11_manyOf_69 : decode cX11_manyOf 69 = .ok (.goto 31, 3) := by decide +kernel
theorem dX11_manyOf_72 : decode cX11_manyOf 72 = .ok (.iload_n 3, 1) := by decide +kernel
theorem dX11_manyOf_73 : decode cX11_manyOf 73 = .ok (.iconst (-1), 1) := by decide +kernel
theorem dX11_manyOf_74 : decode cX11_manyOf 74 = .ok (.if_icmp .eq 7, 3) := by decide +kernel
theorem dX11_manyOf_77 : decode cX11_manyOf 77 = .ok (.iconst 4, 1) := by decide +kernel
theorem dX11_manyOf_78 : decode cX11_manyOf 78 = .ok (.goto 22, 3) := by decide +kernel
theorem dX11_manyOf_81 : decode cX11_manyOf 81 = .ok (.iload_n 2, 1) := by decide +kernel
theorem dX11_manyOf_82 : decode cX11_manyOf 82 = .ok (.iconst (-1), 1) := by decide +kernel
theorem dX11_manyOf_83 : decode cX11_manyOf 83 = .ok (.if_icmp .eq 7, 3) := by decide +kernel
theorem dX11_manyOf_86 : decode cX11_manyOf 86 = .ok (.iconst 3, 1) := by decide +kernel
theorem dX11_manyOf_87 : decode cX11_manyOf 87 = .ok (.goto 13, 3) := by decide +kernel
theorem dX11_manyOf_90 : decode cX11_manyOf 90 = .ok (.iload_n 1, 1) := by decide +kernel
theorem dX11_manyOf_91 : decode cX11_manyOf 91 = .ok (.iconst (-1), 1) := by decide +kernel
theorem dX11_manyOf_92 : decode cX11_manyOf 92 = .ok (.if_icmp .eq 7, 3) := by decide +kernel
theorem dX11_manyOf_95 : decode cX11_manyOf 95 = .ok (.iconst 2, 1) := by decide +kernel
theorem dX11_manyOf_96 : decode cX11_manyOf 96 = .ok (.goto 4, 3) := by decide +kernel
theorem dX11_manyOf_99 : decode cX11_manyOf 99 = .ok (.iconst 1, 1) := by decide +kernel
theorem dX11_manyOf_100 : decode cX11_manyOf 100 = .ok (.ireturn, 1) := by decide +kernel
theorem dX11_layWay_0 : decode cX11_layWay 0 = .ok (.aload_n 0, 1) := by decide +kernel
theorem dX11_layWay_1 : decode cX11_layWay 1 = .ok (.getfield 23, 3) := by decide +kernel
theorem dX11_layWay_4 : decode cX11_layWay 4 = .ok (.iload_n 1, 1) := by decide +kernel
theorem dX11_layWay_5 : decode cX11_layWay 5 = .ok (.iload_n 2, 1) := by decide +kernel
theorem dX11_layWay_6 : decode cX11_layWay 6 = .ok (.iastore, 1) := by decide +kernel
theorem dX11_layWay_7 : decode cX11_layWay 7 = .ok (.aload_n 0, 1) := by decide +kernel
theorem dX11_layWay_8 : decode cX11_layWay 8 = .ok (.getfield 26, 3) := by decide +kernel
theorem dX11_layWay_11 : decode cX11_layWay 11 = .ok (.iconst 4, 1) := by decide +kernel
theorem dX11_layWay_12 : decode cX11_layWay 12 = .ok (.iload_n 1, 1) := by decide +kernel
theorem dX11_layWay_13 : decode cX11_layWay 13 = .ok (.imul, 1) := by decide +kernel
theorem dX11_layWay_14 : decode cX11_layWay 14 = .ok (.iload_n 3, 1) := by decide +kernel
theorem dX11_layWay_15 : decode cX11_layWay 15 = .ok (.iastore, 1) := by decide +kernel
theorem dX11_layWay_16 : decode cX11_layWay 16 = .ok (.aload_n 0, 1) := by decide +kernel
theorem dX11_layWay_17 : decode cX11_layWay 17 = .ok (.getfield 26, 3) := by decide +kernel
theorem dX11_layWay_20 : decode cX11_layWay 20 = .ok (.iconst 4, 1) := by decide +kernel
theorem dX11_layWay_21 : decode cX11_layWay 21 = .ok (.iload_n 1, 1) := by decide +kernel
theorem dX11_layWay_22 : decode cX11_layWay 22 = .ok (.imul, 1) := by decide +kernel
theorem dX11_layWay_23 : decode cX11_layWay 23 = .ok (.iconst 1, 1) := by decide +kernel
theorem dX11_layWay_24 : decode cX11_layWay 24 = .ok (.iadd, 1) := by decide +kernel
theorem dX11_layWay_25 : decode cX11_layWay 25 = .ok (.iload 4, 2) := by decide +kernel
theorem dX11_layWay_27 : decode cX11_layWay 27 = .ok (.iastore, 1) := by decide +kernel
theorem dX11_layWay_28 : decode cX11_layWay 28 = .ok (.aload_n 0, 1) := by decide +kernel
theorem dX11_layWay_29 : decode cX11_layWay 29 = .ok (.getfield 26, 3) := by decide +kernel
theorem dX11_layWay_32 : decode cX11_layWay 32 = .ok (.iconst 4, 1) := by decide +kernel
theorem dX11_layWay_33 : decode cX11_layWay 33 = .ok (.iload_n 1, 1) := by decide +kernel
theorem dX11_layWay_34 : decode cX11_layWay 34 = .ok (.imul, 1) := by decide +kernel
theorem dX11_layWay_35 : decode cX11_layWay 35 = .ok (.iconst 2, 1) := by decide +kernel
theorem dX11_layWay_36 : decode cX11_layWay 36 = .ok (.iadd, 1) := by decide +kernel
theorem dX11_layWay_37 : decode cX11_layWay 37 = .ok (.iload 5, 2) := by decide +kernel
theorem dX11_layWay_39 : decode cX11_layWay 39 = .ok (.iastore, 1) := by decide +kernel
theorem dX11_layWay_40 : decode cX11_layWay 40 = .ok (.aload_n 0, 1) := by decide +kernel
theorem dX11_layWay_41 : decode cX11_layWay 41 = .ok (.getfield 26, 3) := by decide +kernel
theorem dX11_layWay_44 : decode cX11_layWay 44 = .ok (.iconst 4, 1) := by decide +kernel
theorem dX11_layWay_45 : decode cX11_layWay 45 = .ok (.iload_n 1, 1) := by decide +kernel
theorem dX11_layWay_46 : decode cX11_layWay 46 = .ok (.imul, 1) := by decide +kernel
theorem dX11_layWay_47 : decode cX11_layWay 47 = .ok (.iconst 3, 1) := by decide +kernel
theorem dX11_layWay_48 : decode cX11_layWay 48 = .ok (.iadd, 1) := by decide +kernel
theorem dX11_layWay_49 : decode cX11_layWay 49 = .ok (.iload 6, 2) := by decide +kernel
theorem dX11_layWay_51 : decode cX11_layWay 51 = .ok (.iastore, 1) := by decide +kernel
theorem dX11_layWay_52 : decode cX11_layWay 52 = .ok (.aload_n 0, 1) := by decide +kernel
theorem dX11_layWay_53 : decode cX11_layWay 53 = .ok (.iconst 0, 1) := by decide +kernel
theorem dX11_layWay_54 : decode cX11_layWay 54 = .ok (.putfield 96, 3) := by decide +kernel
theorem dX11_layWay_57 : decode cX11_layWay 57 = .ok (.return_, 1) := by decide +kernel
theorem dX11_word_0 : decode cX11_word 0 = .ok (.iload_n 1, 1) := by decide +kernel
theorem dX11_word_1 : decode cX11_word 1 = .ok (.iload_n 2, 1) := by decide +kernel
theorem dX11_word_2 : decode cX11_word 2 = .ok (.iload_n 3, 1) := by decide +kernel
theorem dX11_word_3 : decode cX11_word 3 = .ok (.iload 4, 2) := by decide +kernel
theorem dX11_word_5 : decode cX11_word 5 = .ok (.invokestatic 100, 3) := by decide +kernel
theorem dX11_word_8 : decode cX11_word 8 = .ok (.istore 5, 2) := by decide +kernel
theorem dX11_word_10 : decode cX11_word 10 = .ok (.iload 5, 2) := by decide +kernel
theorem dX11_word_12 : decode cX11_word 12 = .ok (.iconst (-1), 1) := by decide +kernel
theorem dX11_word_13 : decode cX11_word 13 = .ok (.if_icmp .ne 6, 3) := by decide +kernel
theorem dX11_word_16 : decode cX11_word 16 = .ok (.bipush (-2), 2) := by decide +kernel
theorem dX11_word_18 : decode cX11_word 18 = .ok (.ireturn, 1) := by decide +kernel
theorem dX11_word_19 : decode cX11_word 19 = .ok (.aload_n 0, 1) := by decide +kernel
theorem dX11_word_20 : decode cX11_word 20 = .ok (.getfield 104, 3) := by decide +kernel
theorem dX11_word_23 : decode cX11_word 23 = .ok (.bipush 8, 2) := by decide +kernel
theorem dX11_word_25 : decode cX11_word 25 = .ok (.if_icmp .ne 6, 3) := by decide +kernel
theorem dX11_word_28 : decode cX11_word 28 = .ok (.bipush (-4), 2) := by decide +kernel
theorem dX11_word_30 : decode cX11_word 30 = .ok (.ireturn, 1) := by decide +kernel
theorem dX11_word_31 : decode cX11_word 31 = .ok (.aload_n 0, 1) := by decide +kernel
theorem dX11_word_32 : decode cX11_word 32 = .ok (.iconst 2, 1) := by decide +kernel
theorem dX11_word_33 : decode cX11_word 33 = .ok (.aload_n 0, 1) := by decide +kernel
theorem dX11_word_34 : decode cX11_word 34 = .ok (.getfield 104, 3) := by decide +kernel
theorem dX11_word_37 : decode cX11_word 37 = .ok (.imul, 1) := by decide +kernel
theorem dX11_word_38 : decode cX11_word 38 = .ok (.iload 5, 2) := by decide +kernel
theorem dX11_word_40 : decode cX11_word 40 = .ok (.iload_n 1, 1) := by decide +kernel
theorem dX11_word_41 : decode cX11_word 41 = .ok (.iload_n 2, 1) := by decide +kernel
theorem dX11_word_42 : decode cX11_word 42 = .ok (.iload_n 3, 1) := by decide +kernel
theorem dX11_word_43 : decode cX11_word 43 = .ok (.iload 4, 2) := by decide +kernel
theorem dX11_word_45 : decode cX11_word 45 = .ok (.invokevirtual 107, 3) := by decide +kernel
theorem dX11_word_48 : decode cX11_word 48 = .ok (.aload_n 0, 1) := by decide +kernel
theorem dX11_word_49 : decode cX11_word 49 = .ok (.getfield 20, 3) := by decide +kernel
theorem dX11_word_52 : decode cX11_word 52 = .ok (.aload_n 0, 1) := by decide +kernel
theorem dX11_word_53 : decode cX11_word 53 = .ok (.getfield 104, 3) := by decide +kernel
theorem dX11_word_56 : decode cX11_word 56 = .ok (.iconst 1, 1) := by decide +kernel
theorem dX11_word_57 : decode cX11_word 57 = .ok (.iastore, 1) := by decide +kernel
theorem dX11_word_58 : decode cX11_word 58 = .ok (.aload_n 0, 1) := by decide +kernel
theorem dX11_word_59 : decode cX11_word 59 = .ok (.dup, 1) := by decide +kernel
theorem dX11_word_60 : decode cX11_word 60 = .ok (.getfield 104, 3) := by decide +kernel
theorem dX11_word_63 : decode cX11_word 63 = .ok (.iconst 1, 1) := by decide +kernel
theorem dX11_word_64 : decode cX11_word 64 = .ok (.iadd, 1) := by decide +kernel
theorem dX11_word_65 : decode cX11_word 65 = .ok (.putfield 104, 3) := by decide +kernel
theorem dX11_word_68 : decode cX11_word 68 = .ok (.aload_n 0, 1) := by decide +kernel
theorem dX11_word_69 : decode cX11_word 69 = .ok (.getfield 104, 3) := by decide +kernel
theorem dX11_word_72 : decode cX11_word 72 = .ok (.iconst 1, 1) := by decide +kernel
theorem dX11_word_73 : decode cX11_word 73 = .ok (.isub, 1) := by decide +kernel
theorem dX11_word_74 : decode cX11_word 74 = .ok (.ireturn, 1) := by decide +kernel
theorem dX11_isWord_0 : decode cX11_isWord 0 = .ok (.iload_n 1, 1) := by decide +kernel
theorem dX11_isWord_1 : decode cX11_isWord 1 = .ok (.iconst 0, 1) := by decide +kernel
theorem dX11_isWord_2 : decode cX11_isWord 2 = .ok (.aload_n 0, 1) := by decide +kernel
theorem dX11_isWord_3 : decode cX11_isWord 3 = .ok (.getfield 104, 3) := by decide +kernel
theorem dX11_isWord_6 : decode cX11_isWord 6 = .ok (.iconst 1, 1) := by decide +kernel
theorem dX11_isWord_7 : decode cX11_isWord 7 = .ok (.isub, 1) := by decide +kernel
theorem dX11_isWord_8 : decode cX11_isWord 8 = .ok (.invokestatic 89, 3) := by decide +kernel
theorem dX11_isWord_11 : decode cX11_isWord 11 = .ok (.ireturn, 1) := by decide +kernel
theorem dX11_way_0 : decode cX11_way 0 = .ok (.iload_n 2, 1) := by decide +kernel
theorem dX11_way_1 : decode cX11_way 1 = .ok (.iload_n 3, 1) := by decide +kernel
theorem dX11_way_2 : decode cX11_way 2 = .ok (.iload 4, 2) := by decide +kernel
theorem dX11_way_4 : decode cX11_way 4 = .ok (.iload 5, 2) := by decide +kernel
theorem dX11_way_6 : decode cX11_way 6 = .ok (.invokestatic 100, 3) := by decide +kernel
theorem dX11_way_9 : decode cX11_way 9 = .ok (.istore 6, 2) := by decide +kernel
theorem dX11_way_11 : decode cX11_way 11 = .ok (.aload_n 0, 1) := by decide +kernel
theorem dX11_way_12 : decode cX11_way 12 = .ok (.iload_n 1, 1) := by decide +kernel
theorem dX11_way_13 : decode cX11_way 13 = .ok (.invokevirtual 111, 3) := by decide +kernel
theorem dX11_way_16 : decode cX11_way 16 = .ok (.ifCond .eq 9, 3) := by decide +kernel
theorem dX11_way_19 : decode cX11_way 19 = .ok (.iload 6, 2) := by decide +kernel
theorem dX11_way_21 : decode cX11_way 21 = .ok (.iconst (-1), 1) := by decide +kernel
theorem dX11_way_22 : decode cX11_way 22 = .ok (.if_icmp .ne 6, 3) := by decide +kernel
theorem dX11_way_25 : decode cX11_way 25 = .ok (.bipush (-2), 2) := by decide +kernel
theorem dX11_way_27 : decode cX11_way 27 = .ok (.ireturn, 1) := by decide +kernel
theorem dX11_way_28 : decode cX11_way 28 = .ok (.aload_n 0, 1) := by decide +kernel
theorem dX11_way_29 : decode cX11_way 29 = .ok (.getfield 20, 3) := by decide +kernel
theorem dX11_way_32 : decode cX11_way 32 = .ok (.iload_n 1, 1) := by decide +kernel
theorem dX11_way_33 : decode cX11_way 33 = .ok (.iaload, 1) := by decide +kernel
theorem dX11_way_34 : decode cX11_way 34 = .ok (.iconst 2, 1) := by decide +kernel
theorem dX11_way_35 : decode cX11_way 35 = .ok (.if_icmp .ne 6, 3) := by decide +kernel
theorem dX11_way_38 : decode cX11_way 38 = .ok (.bipush (-4), 2) := by decide +kernel
theorem dX11_way_40 : decode cX11_way 40 = .ok (.ireturn, 1) := by decide +kernel
theorem dX11_way_41 : decode cX11_way 41 = .ok (.aload_n 0, 1) := by decide +kernel
theorem dX11_way_42 : decode cX11_way 42 = .ok (.iconst 2, 1) := by decide +kernel
theorem dX11_way_43 : decode cX11_way 43 = .ok (.iload_n 1, 1) := by decide +kernel
theorem dX11_way_44 : decode cX11_way 44 = .ok (.imul, 1) := by decide +kernel
theorem dX11_way_45 : decode cX11_way 45 = .ok (.iconst 1, 1) := by decide +kernel
theorem dX11_way_46 : decode cX11_way 46 = .ok (.iadd, 1) := by decide +kernel
theorem dX11_way_47 : decode cX11_way 47 = .ok (.iload 6, 2) := by decide +kernel
theorem dX11_way_49 : decode cX11_way 49 = .ok (.iload_n 2, 1) := by decide +kernel
theorem dX11_way_50 : decode cX11_way 50 = .ok (.iload_n 3, 1) := by decide +kernel
theorem dX11_way_51 : decode cX11_way 51 = .ok (.iload 4, 2) := by decide +kernel
theorem dX11_way_53 : decode cX11_way 53 = .ok (.iload 5, 2) := by decide +kernel
theorem dX11_way_55 : decode cX11_way 55 = .ok (.invokevirtual 107, 3) := by decide +kernel
theorem dX11_way_58 : decode cX11_way 58 = .ok (.aload_n 0, 1) := by decide +kernel
theorem dX11_way_59 : decode cX11_way 59 = .ok (.getfield 20, 3) := by decide +kernel
theorem dX11_way_62 : decode cX11_way 62 = .ok (.iload_n 1, 1) := by decide +kernel
theorem dX11_way_63 : decode cX11_way 63 = .ok (.iconst 2, 1) := by decide +kernel
theorem dX11_way_64 : decode cX11_way 64 = .ok (.iastore, 1) := by decide +kernel
theorem dX11_way_65 : decode cX11_way 65 = .ok (.iconst 1, 1) := by decide +kernel
theorem dX11_way_66 : decode cX11_way 66 = .ok (.ireturn, 1) := by decide +kernel
theorem dX11_behind_0 : decode cX11_behind 0 = .ok (.aload_n 0, 1) := by decide +kernel
theorem dX11_behind_1 : decode cX11_behind 1 = .ok (.getfield 29, 3) := by decide +kernel
theorem dX11_behind_4 : decode cX11_behind 4 = .ok (.bipush 9, 2) := by decide +kernel
theorem dX11_behind_6 : decode cX11_behind 6 = .ok (.iload_n 1, 1) := by decide +kernel
theorem dX11_behind_7 : decode cX11_behind 7 = .ok (.iconst (-1), 1) := by decide +kernel
theorem dX11_behind_8 : decode cX11_behind 8 = .ok (.if_icmp .ne 8, 3) := by decide +kernel
theorem dX11_behind_11 : decode cX11_behind 11 = .ok (.bipush 8, 2) := by decide +kernel
theorem dX11_behind_13 : decode cX11_behind 13 = .ok (.goto 4, 3) := by decide +kernel
theorem dX11_behind_16 : decode cX11_behind 16 = .ok (.iload_n 1, 1) := by decide +kernel
theorem dX11_behind_17 : decode cX11_behind 17 = .ok (.imul, 1) := by decide +kernel
theorem dX11_behind_18 : decode cX11_behind 18 = .ok (.iload_n 2, 1) := by decide +kernel
theorem dX11_behind_19 : decode cX11_behind 19 = .ok (.iconst (-1), 1) := by decide +kernel
theorem dX11_behind_20 : decode cX11_behind 20 = .ok (.if_icmp .ne 8, 3) := by decide +kernel
theorem dX11_behind_23 : decode cX11_behind 23 = .ok (.bipush 8, 2) := by decide +kernel
theorem dX11_behind_25 : decode cX11_behind 25 = .ok (.goto 4, 3) := by decide +kernel
theorem dX11_behind_28 : decode cX11_behind 28 = .ok (.iload_n 2, 1) := by decide +kernel
theorem dX11_behind_29 : decode cX11_behind 29 = .ok (.iadd, 1) := by decide +kernel
theorem dX11_behind_30 : decode cX11_behind 30 = .ok (.iaload, 1) := by decide +kernel
theorem dX11_behind_31 : decode cX11_behind 31 = .ok (.ireturn, 1) := by decide +kernel
theorem dX11_grammar_0 : decode cX11_grammar 0 = .ok (.iload_n 1, 1) := by decide +kernel
theorem dX11_grammar_1 : decode cX11_grammar 1 = .ok (.iconst (-1), 1) := by decide +kernel
theorem dX11_grammar_2 : decode cX11_grammar 2 = .ok (.if_icmp .eq 11, 3) := by decide +kernel
theorem dX11_grammar_5 : decode cX11_grammar 5 = .ok (.aload_n 0, 1) := by decide +kernel
theorem dX11_grammar_6 : decode cX11_grammar 6 = .ok (.iload_n 1, 1) := by decide +kernel
theorem dX11_grammar_7 : decode cX11_grammar 7 = .ok (.invokevirtual 111, 3) := by decide +kernel
theorem dX11_grammar_10 : decode cX11_grammar 10 = .ok (.ifCond .eq 36, 3) := by decide +kernel
theorem dX11_grammar_13 : decode cX11_grammar 13 = .ok (.iload_n 2, 1) := by decide +kernel
theorem dX11_grammar_14 : decode cX11_grammar 14 = .ok (.iconst (-1), 1) := by decide +kernel
theorem dX11_grammar_15 : decode cX11_grammar 15 = .ok (.if_icmp .eq 11, 3) := by decide +kernel
theorem dX11_grammar_18 : decode cX11_grammar 18 = .ok (.aload_n 0, 1) := by decide +kernel
theorem dX11_grammar_19 : decode cX11_grammar 19 = .ok (.iload_n 2, 1) := by decide +kernel
theorem dX11_grammar_20 : decode cX11_grammar 20 = .ok (.invokevirtual 111, 3) := by decide +kernel
theorem dX11_grammar_23 : decode cX11_grammar 23 = .ok (.ifCond .eq 23, 3) := by decide +kernel
theorem dX11_grammar_26 : decode cX11_grammar 26 = .ok (.iload_n 1, 1) := by decide +kernel
theorem dX11_grammar_27 : decode cX11_grammar 27 = .ok (.iconst (-1), 1) := by decide +kernel
theorem dX11_grammar_28 : decode cX11_grammar 28 = .ok (.if_icmp .ne 8, 3) := by decide +kernel
theorem dX11_grammar_31 : decode cX11_grammar 31 = .ok (.iload_n 2, 1) := by decide +kernel
theorem dX11_grammar_32 : decode cX11_grammar 32 = .ok (.iconst (-1), 1) := by decide +kernel
theorem dX11_grammar_33 : decode cX11_grammar 33 = .ok (.if_icmp .eq 13, 3) := by decide +kernel
theorem dX11_grammar_36 : decode cX11_grammar 36 = .ok (.iload_n 3, 1) := by decide +kernel
theorem dX11_grammar_37 : decode cX11_grammar 37 = .ok (.iconst (-1), 1) := by decide +kernel
theorem dX11_grammar_38 : decode cX11_grammar 38 = .ok (.bipush 100, 2) := by decide +kernel
theorem dX11_grammar_40 : decode cX11_grammar 40 = .ok (.invokestatic 89, 3) := by decide +kernel
theorem dX11_grammar_43 : decode cX11_grammar 43 = .ok (.ifCond .ne 6, 3) := by decide +kernel
theorem dX11_grammar_46 : decode cX11_grammar 46 = .ok (.bipush (-2), 2) := by decide +kernel
theorem dX11_grammar_48 : decode cX11_grammar 48 = .ok (.ireturn, 1) := by decide +kernel
theorem dX11_grammar_49 : decode cX11_grammar 49 = .ok (.aload_n 0, 1) := by decide +kernel
theorem dX11_grammar_50 : decode cX11_grammar 50 = .ok (.iload_n 1, 1) := by decide +kernel
theorem dX11_grammar_51 : decode cX11_grammar 51 = .ok (.iload_n 2, 1) := by decide +kernel
theorem dX11_grammar_52 : decode cX11_grammar 52 = .ok (.invokevirtual 115, 3) := by decide +kernel
theorem dX11_grammar_55 : decode cX11_grammar 55 = .ok (.istore 4, 2) := by decide +kernel
theorem dX11_grammar_57 : decode cX11_grammar 57 = .ok (.aload_n 0, 1) := by decide +kernel
theorem dX11_grammar_58 : decode cX11_grammar 58 = .ok (.getfield 29, 3) := by decide +kernel
theorem dX11_grammar_61 : decode cX11_grammar 61 = .ok (.bipush 9, 2) := by decide +kernel
theorem dX11_grammar_63 : decode cX11_grammar 63 = .ok (.iload_n 1, 1) := by decide +kernel
theorem dX11_grammar_64 : decode cX11_grammar 64 = .ok (.iconst (-1), 1) := by decide +kernel
theorem dX11_grammar_65 : decode cX11_grammar 65 = .ok (.if_icmp .ne 8, 3) := by decide +kernel
theorem dX11_grammar_68 : decode cX11_grammar 68 = .ok (.bipush 8, 2) := by decide +kernel
theorem dX11_grammar_70 : decode cX11_grammar 70 = .ok (.goto 4, 3) := by decide +kernel
theorem dX11_grammar_73 : decode cX11_grammar 73 = .ok (.iload_n 1, 1) := by decide +kernel
theorem dX11_grammar_74 : decode cX11_grammar 74 = .ok (.imul, 1) := by decide +kernel
theorem dX11_grammar_75 : decode cX11_grammar 75 = .ok (.iload_n 2, 1) := by decide +kernel
theorem dX11_grammar_76 : decode cX11_grammar 76 = .ok (.iconst (-1), 1) := by decide +kernel
theorem dX11_grammar_77 : decode cX11_grammar 77 = .ok (.if_icmp .ne 8, 3) := by decide +kernel
theorem dX11_grammar_80 : decode cX11_grammar 80 = .ok (.bipush 8, 2) := by decide +kernel
theorem dX11_grammar_82 : decode cX11_grammar 82 = .ok (.goto 4, 3) := by decide +kernel
theorem dX11_grammar_85 : decode cX11_grammar 85 = .ok (.iload_n 2, 1) := by decide +kernel
theorem dX11_grammar_86 : decode cX11_grammar 86 = .ok (.iadd, 1) := by decide +kernel
theorem dX11_grammar_87 : decode cX11_grammar 87 = .ok (.iload_n 3, 1) := by decide +kernel
theorem dX11_grammar_88 : decode cX11_grammar 88 = .ok (.iastore, 1) := by decide +kernel
theorem dX11_grammar_89 : decode cX11_grammar 89 = .ok (.aload_n 0, 1) := by decide +kernel
theorem dX11_grammar_90 : decode cX11_grammar 90 = .ok (.iconst 0, 1) := by decide +kernel
theorem dX11_grammar_91 : decode cX11_grammar 91 = .ok (.putfield 96, 3) := by decide +kernel
theorem dX11_grammar_94 : decode cX11_grammar 94 = .ok (.iload 4, 2) := by decide +kernel
theorem dX11_grammar_96 : decode cX11_grammar 96 = .ok (.ireturn, 1) := by decide +kernel
theorem dX11_costOf_0 : decode cX11_costOf 0 = .ok (.aload_n 0, 1) := by decide +kernel
theorem dX11_costOf_1 : decode cX11_costOf 1 = .ok (.getfield 7, 3) := by decide +kernel
theorem dX11_costOf_4 : decode cX11_costOf 4 = .ok (.iload_n 2, 1) := by decide +kernel
theorem dX11_costOf_5 : decode cX11_costOf 5 = .ok (.iaload, 1) := by decide +kernel
theorem dX11_costOf_6 : decode cX11_costOf 6 = .ok (.iconst (-1), 1) := by decide +kernel
theorem dX11_costOf_7 : decode cX11_costOf 7 = .ok (.if_icmp .ne 8, 3) := by decide +kernel
theorem dX11_costOf_10 : decode cX11_costOf 10 = .ok (.bipush 10, 2) := by decide +kernel
theorem dX11_costOf_12 : decode cX11_costOf 12 = .ok (.goto 19, 3) := by decide +kernel
theorem dX11_costOf_15 : decode cX11_costOf 15 = .ok (.aload_n 0, 1) := by decide +kernel
theorem dX11_costOf_16 : decode cX11_costOf 16 = .ok (.getfield 13, 3) := by decide +kernel
theorem dX11_costOf_19 : decode cX11_costOf 19 = .ok (.bipush 8, 2) := by decide +kernel
theorem dX11_costOf_21 : decode cX11_costOf 21 = .ok (.iload_n 1, 1) := by decide +kernel
theorem dX11_costOf_22 : decode cX11_costOf 22 = .ok (.imul, 1) := by decide +kernel
theorem dX11_costOf_23 : decode cX11_costOf 23 = .ok (.aload_n 0, 1) := by decide +kernel
theorem dX11_costOf_24 : decode cX11_costOf 24 = .ok (.getfield 7, 3) := by decide +kernel
theorem dX11_costOf_27 : decode cX11_costOf 27 = .ok (.iload_n 2, 1) := by decide +kernel
theorem dX11_costOf_28 : decode cX11_costOf 28 = .ok (.iaload, 1) := by decide +kernel
theorem dX11_costOf_29 : decode cX11_costOf 29 = .ok (.iadd, 1) := by decide +kernel
theorem dX11_costOf_30 : decode cX11_costOf 30 = .ok (.iaload, 1) := by decide +kernel
theorem dX11_costOf_31 : decode cX11_costOf 31 = .ok (.ireturn, 1) := by decide +kernel
theorem dX11_onAt_0 : decode cX11_onAt 0 = .ok (.bipush 41, 2) := by decide +kernel
theorem dX11_onAt_2 : decode cX11_onAt 2 = .ok (.iload_n 0, 1) := by decide +kernel
theorem dX11_onAt_3 : decode cX11_onAt 3 = .ok (.imul, 1) := by decide +kernel
theorem dX11_onAt_4 : decode cX11_onAt 4 = .ok (.iload_n 1, 1) := by decide +kernel
theorem dX11_onAt_5 : decode cX11_onAt 5 = .ok (.iadd, 1) := by decide +kernel
theorem dX11_onAt_6 : decode cX11_onAt 6 = .ok (.bipush 41, 2) := by decide +kernel
theorem dX11_onAt_8 : decode cX11_onAt 8 = .ok (.imul, 1) := by decide +kernel
theorem dX11_onAt_9 : decode cX11_onAt 9 = .ok (.iload_n 2, 1) := by decide +kernel
theorem dX11_onAt_10 : decode cX11_onAt 10 = .ok (.iadd, 1) := by decide +kernel
theorem dX11_onAt_11 : decode cX11_onAt 11 = .ok (.ireturn, 1) := by decide +kernel
theorem dX11_layOn_0 : decode cX11_layOn 0 = .ok (.iconst 2, 1) := by decide +kernel
theorem dX11_layOn_1 : decode cX11_layOn 1 = .ok (.iload_n 1, 1) := by decide +kernel
theorem dX11_layOn_2 : decode cX11_layOn 2 = .ok (.imul, 1) := by decide +kernel
theorem dX11_layOn_3 : decode cX11_layOn 3 = .ok (.iload_n 2, 1) := by decide +kernel
theorem dX11_layOn_4 : decode cX11_layOn 4 = .ok (.iadd, 1) := by decide +kernel
theorem dX11_layOn_5 : decode cX11_layOn 5 = .ok (.istore 4, 2) := by decide +kernel
theorem dX11_layOn_7 : decode cX11_layOn 7 = .ok (.iconst 0, 1) := by decide +kernel
theorem dX11_layOn_8 : decode cX11_layOn 8 = .ok (.istore 5, 2) := by decide +kernel
theorem dX11_layOn_10 : decode cX11_layOn 10 = .ok (.iload 5, 2) := by decide +kernel
theorem dX11_layOn_12 : decode cX11_layOn 12 = .ok (.iconst 5, 1) := by decide +kernel
theorem dX11_layOn_13 : decode cX11_layOn 13 = .ok (.if_icmp .ge 27, 3) := by decide +kernel
theorem dX11_layOn_16 : decode cX11_layOn 16 = .ok (.aload_n 0, 1) := by decide +kernel
theorem dX11_layOn_17 : decode cX11_layOn 17 = .ok (.getfield 65, 3) := by decide +kernel
theorem dX11_layOn_20 : decode cX11_layOn 20 = .ok (.iload 5, 2) := by decide +kernel
theorem dX11_layOn_22 : decode cX11_layOn 22 = .ok (.iload 5, 2) := by decide +kernel
theorem dX11_layOn_24 : decode cX11_layOn 24 = .ok (.ifCond .ne 7, 3) := by decide +kernel
theorem dX11_layOn_27 : decode cX11_layOn 27 = .ok (.iconst 0, 1) := by decide +kernel
theorem dX11_layOn_28 : decode cX11_layOn 28 = .ok (.goto 5, 3) := by decide +kernel
theorem dX11_layOn_31 : decode cX11_layOn 31 = .ok (.ldc 119, 2) := by decide +kernel
theorem dX11_layOn_33 : decode cX11_layOn 33 = .ok (.iastore, 1) := by decide +kernel
theorem dX11_layOn_34 : decode cX11_layOn 34 = .ok (.iinc 5 1, 3) := by decide +kernel
theorem dX11_layOn_37 : decode cX11_layOn 37 = .ok (.goto (-27), 3) := by decide +kernel
theorem dX11_layOn_40 : decode cX11_layOn 40 = .ok (.iload_n 3, 1) := by decide +kernel
theorem dX11_layOn_41 : decode cX11_layOn 41 = .ok (.iconst 1, 1) := by decide +kernel
theorem dX11_layOn_42 : decode cX11_layOn 42 = .ok (.iadd, 1) := by decide +kernel
theorem dX11_layOn_43 : decode cX11_layOn 43 = .ok (.istore 5, 2) := by decide +kernel
theorem dX11_layOn_45 : decode cX11_layOn 45 = .ok (.iload 5, 2) := by decide +kernel
theorem dX11_layOn_47 : decode cX11_layOn 47 = .ok (.aload_n 0, 1) := by decide +kernel
theorem dX11_layOn_48 : decode cX11_layOn 48 = .ok (.getfield 93, 3) := by decide +kernel
theorem dX11_layOn_51 : decode cX11_layOn 51 = .ok (.if_icmp .gt 169, 3) := by decide +kernel
theorem dX11_layOn_54 : decode cX11_layOn 54 = .ok (.iconst 0, 1) := by decide +kernel
theorem dX11_layOn_55 : decode cX11_layOn 55 = .ok (.istore 6, 2) := by decide +kernel
theorem dX11_layOn_57 : decode cX11_layOn 57 = .ok (.iload 6, 2) := by decide +kernel
theorem dX11_layOn_59 : decode cX11_layOn 59 = .ok (.iconst 5, 1) := by decide +kernel
theorem dX11_layOn_60 : decode cX11_layOn 60 = .ok (.if_icmp .ge 32, 3) := by decide +kernel
theorem dX11_layOn_63 : decode cX11_layOn 63 = .ok (.aload_n 0, 1) := by decide +kernel
theorem dX11_layOn_64 : decode cX11_layOn 64 = .ok (.getfield 68, 3) := by decide +kernel
theorem dX11_layOn_67 : decode cX11_layOn 67 = .ok (.iload 6, 2) := by decide +kernel
theorem dX11_layOn_69 : decode cX11_layOn 69 = .ok (.aload_n 0, 1) := by decide +kernel
theorem dX11_layOn_70 : decode cX11_layOn 70 = .ok (.getfield 65, 3) := by decide +kernel
theorem dX11_layOn_73 : decode cX11_layOn 73 = .ok (.iload 6, 2) := by decide +kernel
theorem dX11_layOn_75 : decode cX11_layOn 75 = .ok (.iaload, 1) := by decide +kernel
theorem dX11_layOn_76 : decode cX11_layOn 76 = .ok (.iastore, 1) := by decide +kernel
theorem dX11_layOn_77 : decode cX11_layOn 77 = .ok (.aload_n 0, 1) := by decide +kernel
theorem dX11_layOn_78 : decode cX11_layOn 78 = .ok (.getfield 65, 3) := by decide +kernel
theorem dX11_layOn_81 : decode cX11_layOn 81 = .ok (.iload 6, 2) := by decide +kernel
theorem dX11_layOn_83 : decode cX11_layOn 83 = .ok (.ldc 119, 2) := by decide +kernel
theorem dX11_layOn_85 : decode cX11_layOn 85 = .ok (.iastore, 1) := by decide +kernel
theorem dX11_layOn_86 : decode cX11_layOn 86 = .ok (.iinc 6 1, 3) := by decide +kernel
theorem dX11_layOn_89 : decode cX11_layOn 89 = .ok (.goto (-32), 3) := by decide +kernel
theorem dX11_layOn_92 : decode cX11_layOn 92 = .ok (.iconst 1, 1) := by decide +kernel
theorem dX11_layOn_93 : decode cX11_layOn 93 = .ok (.istore 6, 2) := by decide +kernel
theorem dX11_layOn_95 : decode cX11_layOn 95 = .ok (.iload 6, 2) := by decide +kernel
theorem dX11_layOn_97 : decode cX11_layOn 97 = .ok (.aload_n 0, 1) := by decide +kernel
theorem dX11_layOn_98 : decode cX11_layOn 98 = .ok (.getfield 23, 3) := by decide +kernel
theorem dX11_layOn_101 : decode cX11_layOn 101 = .ok (.iload 4, 2) := by decide +kernel
theorem dX11_layOn_103 : decode cX11_layOn 103 = .ok (.iaload, 1) := by decide +kernel
theorem dX11_layOn_104 : decode cX11_layOn 104 = .ok (.if_icmp .gt 72, 3) := by decide +kernel
theorem dX11_layOn_107 : decode cX11_layOn 107 = .ok (.aload_n 0, 1) := by decide +kernel
theorem dX11_layOn_108 : decode cX11_layOn 108 = .ok (.getfield 68, 3) := by decide +kernel
theorem dX11_layOn_111 : decode cX11_layOn 111 = .ok (.iload 6, 2) := by decide +kernel
theorem dX11_layOn_113 : decode cX11_layOn 113 = .ok (.iaload, 1) := by decide +kernel
theorem dX11_layOn_114 : decode cX11_layOn 114 = .ok (.aload_n 0, 1) := by decide +kernel
theorem dX11_layOn_115 : decode cX11_layOn 115 = .ok (.getfield 16, 3) := by decide +kernel
theorem dX11_layOn_118 : decode cX11_layOn 118 = .ok (.iadd, 1) := by decide +kernel
theorem dX11_layOn_119 : decode cX11_layOn 119 = .ok (.aload_n 0, 1) := by decide +kernel
theorem dX11_layOn_120 : decode cX11_layOn 120 = .ok (.getfield 68, 3) := by decide +kernel
theorem dX11_layOn_123 : decode cX11_layOn 123 = .ok (.iload 6, 2) := by decide +kernel
theorem dX11_layOn_125 : decode cX11_layOn 125 = .ok (.iconst 1, 1) := by decide +kernel
theorem dX11_layOn_126 : decode cX11_layOn 126 = .ok (.isub, 1) := by decide +kernel
theorem dX11_layOn_127 : decode cX11_layOn 127 = .ok (.iaload, 1) := by decide +kernel
theorem dX11_layOn_128 : decode cX11_layOn 128 = .ok (.invokestatic 120, 3) := by decide +kernel
theorem dX11_layOn_131 : decode cX11_layOn 131 = .ok (.istore 7, 2) := by decide +kernel
theorem dX11_layOn_133 : decode cX11_layOn 133 = .ok (.aload_n 0, 1) := by decide +kernel
theorem dX11_layOn_134 : decode cX11_layOn 134 = .ok (.getfield 65, 3) := by decide +kernel
theorem dX11_layOn_137 : decode cX11_layOn 137 = .ok (.iload 6, 2) := by decide +kernel
theorem dX11_layOn_139 : decode cX11_layOn 139 = .ok (.ldc 119, 2) := by decide +kernel
theorem dX11_layOn_141 : decode cX11_layOn 141 = .ok (.iload 7, 2) := by decide +kernel
theorem dX11_layOn_143 : decode cX11_layOn 143 = .ok (.aload_n 0, 1) := by decide +kernel
theorem dX11_layOn_144 : decode cX11_layOn 144 = .ok (.aload_n 0, 1) := by decide +kernel
theorem dX11_layOn_145 : decode cX11_layOn 145 = .ok (.getfield 26, 3) := by decide +kernel
theorem dX11_layOn_148 : decode cX11_layOn 148 = .ok (.iconst 4, 1) := by decide +kernel
theorem dX11_layOn_149 : decode cX11_layOn 149 = .ok (.iload 4, 2) := by decide +kernel
theorem dX11_layOn_151 : decode cX11_layOn 151 = .ok (.imul, 1) := by decide +kernel
theorem dX11_layOn_152 : decode cX11_layOn 152 = .ok (.iload 6, 2) := by decide +kernel
theorem dX11_layOn_154 : decode cX11_layOn 154 = .ok (.iadd, 1) := by decide +kernel
theorem dX11_layOn_155 : decode cX11_layOn 155 = .ok (.iconst 1, 1) := by decide +kernel
theorem dX11_layOn_156 : decode cX11_layOn 156 = .ok (.isub, 1) := by decide +kernel
theorem dX11_layOn_157 : decode cX11_layOn 157 = .ok (.iaload, 1) := by decide +kernel
theorem dX11_layOn_158 : decode cX11_layOn 158 = .ok (.iload 5, 2) := by decide +kernel
theorem dX11_layOn_160 : decode cX11_layOn 160 = .ok (.iconst 1, 1) := by decide +kernel
theorem dX11_layOn_161 : decode cX11_layOn 161 = .ok (.isub, 1) := by decide +kernel
theorem dX11_layOn_162 : decode cX11_layOn 162 = .ok (.invokevirtual 123, 3) := by decide +kernel
theorem dX11_layOn_165 : decode cX11_layOn 165 = .ok (.iadd, 1) := by decide +kernel
theorem dX11_layOn_166 : decode cX11_layOn 166 = .ok (.invokestatic 120, 3) := by decide +kernel
theorem dX11_layOn_169 : decode cX11_layOn 169 = .ok (.iastore, 1) := by decide +kernel
theorem dX11_layOn_170 : decode cX11_layOn 170 = .ok (.iinc 6 1, 3) := by decide +kernel
theorem dX11_layOn_173 : decode cX11_layOn 173 = .ok (.goto (-78), 3) := by decide +kernel
theorem dX11_layOn_176 : decode cX11_layOn 176 = .ok (.iload_n 1, 1) := by decide +kernel
theorem dX11_layOn_177 : decode cX11_layOn 177 = .ok (.iload_n 3, 1) := by decide +kernel
theorem dX11_layOn_178 : decode cX11_layOn 178 = .ok (.iload 5, 2) := by decide +kernel
theorem dX11_layOn_180 : decode cX11_layOn 180 = .ok (.invokestatic 126, 3) := by decide +kernel
theorem dX11_layOn_183 : decode cX11_layOn 183 = .ok (.istore 6, 2) := by decide +kernel
theorem dX11_layOn_185 : decode cX11_layOn 185 = .ok (.aload_n 0, 1) := by decide +kernel
theorem dX11_layOn_186 : decode cX11_layOn 186 = .ok (.getfield 62, 3) := by decide +kernel
theorem dX11_layOn_189 : decode cX11_layOn 189 = .ok (.iload 6, 2) := by decide +kernel
theorem dX11_layOn_191 : decode cX11_layOn 191 = .ok (.aload_n 0, 1) := by decide +kernel
theorem dX11_layOn_192 : decode cX11_layOn 192 = .ok (.getfield 62, 3) := by decide +kernel
theorem dX11_layOn_195 : decode cX11_layOn 195 = .ok (.iload 6, 2) := by decide +kernel
theorem dX11_layOn_197 : decode cX11_layOn 197 = .ok (.iaload, 1) := by decide +kernel
theorem dX11_layOn_198 : decode cX11_layOn 198 = .ok (.aload_n 0, 1) := by decide +kernel
theorem dX11_layOn_199 : decode cX11_layOn 199 = .ok (.getfield 65, 3) := by decide +kernel
theorem dX11_layOn_202 : decode cX11_layOn 202 = .ok (.aload_n 0, 1) := by decide +kernel
theorem dX11_layOn_203 : decode cX11_layOn 203 = .ok (.getfield 23, 3) := by decide +kernel
theorem dX11_layOn_206 : decode cX11_layOn 206 = .ok (.iload 4, 2) := by decide +kernel
theorem dX11_layOn_208 : decode cX11_layOn 208 = .ok (.iaload, 1) := by decide +kernel
theorem dX11_layOn_209 : decode cX11_layOn 209 = .ok (.iaload, 1) := by decide +kernel
theorem dX11_layOn_210 : decode cX11_layOn 210 = .ok (.invokestatic 120, 3) := by decide +kernel
theorem dX11_layOn_213 : decode cX11_layOn 213 = .ok (.iastore, 1) := by decide +kernel
theorem dX11_layOn_214 : decode cX11_layOn 214 = .ok (.iinc 5 1, 3) := by decide +kernel
theorem dX11_layOn_217 : decode cX11_layOn 217 = .ok (.goto (-172), 3) := by decide +kernel
theorem dX11_layOn_220 : decode cX11_layOn 220 = .ok (.return_, 1) := by decide +kernel
theorem dX11_layAll_0 : decode cX11_layAll 0 = .ok (.iconst 0, 1) := by decide +kernel
theorem dX11_layAll_1 : decode cX11_layAll 1 = .ok (.istore_n 1, 1) := by decide +kernel
theorem dX11_layAll_2 : decode cX11_layAll 2 = .ok (.iload_n 1, 1) := by decide +kernel
theorem dX11_layAll_3 : decode cX11_layAll 3 = .ok (.sipush 13448, 3) := by decide +kernel
theorem dX11_layAll_6 : decode cX11_layAll 6 = .ok (.if_icmp .ge 17, 3) := by decide +kernel
theorem dX11_layAll_9 : decode cX11_layAll 9 = .ok (.aload_n 0, 1) := by decide +kernel
theorem dX11_layAll_10 : decode cX11_layAll 10 = .ok (.getfield 62, 3) := by decide +kernel
theorem dX11_layAll_13 : decode cX11_layAll 13 = .ok (.iload_n 1, 1) := by decide +kernel
theorem dX11_layAll_14 : decode cX11_layAll 14 = .ok (.ldc 119, 2) := by decide +kernel
theorem dX11_layAll_16 : decode cX11_layAll 16 = .ok (.iastore, 1) := by decide +kernel
theorem dX11_layAll_17 : decode cX11_layAll 17 = .ok (.iinc 1 1, 3) := by decide +kernel
theorem dX11_layAll_20 : decode cX11_layAll 20 = .ok (.goto (-18), 3) := by decide +kernel
theorem dX11_layAll_23 : decode cX11_layAll 23 = .ok (.iconst 0, 1) := by decide +kernel
theorem dX11_layAll_24 : decode cX11_layAll 24 = .ok (.istore_n 1, 1) := by decide +kernel
theorem dX11_layAll_25 : decode cX11_layAll 25 = .ok (.iload_n 1, 1) := by decide +kernel
theorem dX11_layAll_26 : decode cX11_layAll 26 = .ok (.aload_n 0, 1) := by decide +kernel
theorem dX11_layAll_27 : decode cX11_layAll 27 = .ok (.getfield 104, 3) := by decide +kernel
theorem dX11_layAll_30 : decode cX11_layAll 30 = .ok (.if_icmp .ge 50, 3) := by decide +kernel
theorem dX11_layAll_33 : decode cX11_layAll 33 = .ok (.iconst 0, 1) := by decide +kernel
theorem dX11_layAll_34 : decode cX11_layAll 34 = .ok (.istore_n 2, 1) := by decide +kernel
theorem dX11_layAll_35 : decode cX11_layAll 35 = .ok (.iload_n 2, 1) := by decide +kernel
theorem dX11_layAll_36 : decode cX11_layAll 36 = .ok (.aload_n 0, 1) := by decide +kernel
theorem dX11_layAll_37 : decode cX11_layAll 37 = .ok (.getfield 20, 3) := by decide +kernel
theorem dX11_layAll_40 : decode cX11_layAll 40 = .ok (.iload_n 1, 1) := by decide +kernel
theorem dX11_layAll_41 : decode cX11_layAll 41 = .ok (.iaload, 1) := by decide +kernel
theorem dX11_layAll_42 : decode cX11_layAll 42 = .ok (.if_icmp .ge 32, 3) := by decide +kernel
theorem dX11_layAll_45 : decode cX11_layAll 45 = .ok (.iconst 0, 1) := by decide +kernel
theorem dX11_layAll_46 : decode cX11_layAll 46 = .ok (.istore_n 3, 1) := by decide +kernel
theorem dX11_layAll_47 : decode cX11_layAll 47 = .ok (.iload_n 3, 1) := by decide +kernel
theorem dX11_layAll_48 : decode cX11_layAll 48 = .ok (.aload_n 0, 1) := by decide +kernel
theorem dX11_layAll_49 : decode cX11_layAll 49 = .ok (.getfield 93, 3) := by decide +kernel
theorem dX11_layAll_52 : decode cX11_layAll 52 = .ok (.if_icmp .ge 16, 3) := by decide +kernel
theorem dX11_layAll_55 : decode cX11_layAll 55 = .ok (.aload_n 0, 1) := by decide +kernel
theorem dX11_layAll_56 : decode cX11_layAll 56 = .ok (.iload_n 1, 1) := by decide +kernel
theorem dX11_layAll_57 : decode cX11_layAll 57 = .ok (.iload_n 2, 1) := by decide +kernel
theorem dX11_layAll_58 : decode cX11_layAll 58 = .ok (.iload_n 3, 1) := by decide +kernel
theorem dX11_layAll_59 : decode cX11_layAll 59 = .ok (.invokevirtual 130, 3) := by decide +kernel
theorem dX11_layAll_62 : decode cX11_layAll 62 = .ok (.iinc 3 1, 3) := by decide +kernel
theorem dX11_layAll_65 : decode cX11_layAll 65 = .ok (.goto (-18), 3) := by decide +kernel
theorem dX11_layAll_68 : decode cX11_layAll 68 = .ok (.iinc 2 1, 3) := by decide +kernel
theorem dX11_layAll_71 : decode cX11_layAll 71 = .ok (.goto (-36), 3) := by decide +kernel
theorem dX11_layAll_74 : decode cX11_layAll 74 = .ok (.iinc 1 1, 3) := by decide +kernel
theorem dX11_layAll_77 : decode cX11_layAll 77 = .ok (.goto (-52), 3) := by decide +kernel
theorem dX11_layAll_80 : decode cX11_layAll 80 = .ok (.return_, 1) := by decide +kernel
theorem dX11_restAt_0 : decode cX11_restAt 0 = .ok (.aload_n 0, 1) := by decide +kernel
theorem dX11_restAt_1 : decode cX11_restAt 1 = .ok (.getfield 71, 3) := by decide +kernel
theorem dX11_restAt_4 : decode cX11_restAt 4 = .ok (.bipush 9, 2) := by decide +kernel
theorem dX11_restAt_6 : decode cX11_restAt 6 = .ok (.iload_n 1, 1) := by decide +kernel
theorem dX11_restAt_7 : decode cX11_restAt 7 = .ok (.imul, 1) := by decide +kernel
theorem dX11_restAt_8 : decode cX11_restAt 8 = .ok (.iload_n 2, 1) := by decide +kernel
theorem dX11_restAt_9 : decode cX11_restAt 9 = .ok (.iconst (-1), 1) := by decide +kernel
theorem dX11_restAt_10 : decode cX11_restAt 10 = .ok (.if_icmp .ne 8, 3) := by decide +kernel
theorem dX11_restAt_13 : decode cX11_restAt 13 = .ok (.bipush 8, 2) := by decide +kernel
theorem dX11_restAt_15 : decode cX11_restAt 15 = .ok (.goto 4, 3) := by decide +kernel
theorem dX11_restAt_18 : decode cX11_restAt 18 = .ok (.iload_n 2, 1) := by decide +kernel
theorem dX11_restAt_19 : decode cX11_restAt 19 = .ok (.iadd, 1) := by decide +kernel
theorem dX11_restAt_20 : decode cX11_restAt 20 = .ok (.iaload, 1) := by decide +kernel
theorem dX11_restAt_21 : decode cX11_restAt 21 = .ok (.ireturn, 1) := by decide +kernel
theorem dX11_withNext_0 : decode cX11_withNext 0 = .ok (.aload_n 0, 1) := by decide +kernel
theorem dX11_withNext_1 : decode cX11_withNext 1 = .ok (.iload_n 2, 1) := by decide +kernel
theorem dX11_withNext_2 : decode cX11_withNext 2 = .ok (.iload_n 3, 1) := by decide +kernel
theorem dX11_withNext_3 : decode cX11_withNext 3 = .ok (.invokevirtual 115, 3) := by decide +kernel
theorem dX11_withNext_6 : decode cX11_withNext 6 = .ok (.ifCond .ge 6, 3) := by decide +kernel
theorem dX11_withNext_9 : decode cX11_withNext 9 = .ok (.ldc 119, 2) := by decide +kernel
theorem dX11_withNext_11 : decode cX11_withNext 11 = .ok (.ireturn, 1) := by decide +kernel
theorem dX11_withNext_12 : decode cX11_withNext 12 = .ok (.ldc 119, 2) := by decide +kernel
theorem dX11_withNext_14 : decode cX11_withNext 14 = .ok (.istore 4, 2) := by decide +kernel
theorem dX11_withNext_16 : decode cX11_withNext 16 = .ok (.iload_n 1, 1) := by decide +kernel
theorem dX11_withNext_17 : decode cX11_withNext 17 = .ok (.iconst 1, 1) := by decide +kernel
theorem dX11_withNext_18 : decode cX11_withNext 18 = .ok (.iadd, 1) := by decide +kernel
theorem dX11_withNext_19 : decode cX11_withNext 19 = .ok (.istore 5, 2) := by decide +kernel
theorem dX11_withNext_21 : decode cX11_withNext 21 = .ok (.iload 5, 2) := by decide +kernel
theorem dX11_withNext_23 : decode cX11_withNext 23 = .ok (.aload_n 0, 1) := by decide +kernel
theorem dX11_withNext_24 : decode cX11_withNext 24 = .ok (.getfield 93, 3) := by decide +kernel
theorem dX11_withNext_27 : decode cX11_withNext 27 = .ok (.if_icmp .gt 36, 3) := by decide +kernel
theorem dX11_withNext_30 : decode cX11_withNext 30 = .ok (.iload 4, 2) := by decide +kernel
theorem dX11_withNext_32 : decode cX11_withNext 32 = .ok (.aload_n 0, 1) := by decide +kernel
theorem dX11_withNext_33 : decode cX11_withNext 33 = .ok (.getfield 62, 3) := by decide +kernel
theorem dX11_withNext_36 : decode cX11_withNext 36 = .ok (.iload_n 3, 1) := by decide +kernel
theorem dX11_withNext_37 : decode cX11_withNext 37 = .ok (.iload_n 1, 1) := by decide +kernel
theorem dX11_withNext_38 : decode cX11_withNext 38 = .ok (.iload 5, 2) := by decide +kernel
theorem dX11_withNext_40 : decode cX11_withNext 40 = .ok (.invokestatic 126, 3) := by decide +kernel
theorem dX11_withNext_43 : decode cX11_withNext 43 = .ok (.iaload, 1) := by decide +kernel
theorem dX11_withNext_44 : decode cX11_withNext 44 = .ok (.aload_n 0, 1) := by decide +kernel
theorem dX11_withNext_45 : decode cX11_withNext 45 = .ok (.iload 5, 2) := by decide +kernel
theorem dX11_withNext_47 : decode cX11_withNext 47 = .ok (.iload_n 3, 1) := by decide +kernel
theorem dX11_withNext_48 : decode cX11_withNext 48 = .ok (.invokevirtual 134, 3) := by decide +kernel
theorem dX11_withNext_51 : decode cX11_withNext 51 = .ok (.iadd, 1) := by decide +kernel
theorem dX11_withNext_52 : decode cX11_withNext 52 = .ok (.invokestatic 120, 3) := by decide +kernel
theorem dX11_withNext_55 : decode cX11_withNext 55 = .ok (.istore 4, 2) := by decide +kernel
theorem dX11_withNext_57 : decode cX11_withNext 57 = .ok (.iinc 5 1, 3) := by decide +kernel
theorem dX11_withNext_60 : decode cX11_withNext 60 = .ok (.goto (-39), 3) := by decide +kernel
theorem dX11_withNext_63 : decode cX11_withNext 63 = .ok (.ldc 119, 2) := by decide +kernel
theorem dX11_withNext_65 : decode cX11_withNext 65 = .ok (.iload 4, 2) := by decide +kernel
theorem dX11_withNext_67 : decode cX11_withNext 67 = .ok (.aload_n 0, 1) := by decide +kernel
theorem dX11_withNext_68 : decode cX11_withNext 68 = .ok (.iload_n 2, 1) := by decide +kernel
theorem dX11_withNext_69 : decode cX11_withNext 69 = .ok (.iload_n 3, 1) := by decide +kernel
theorem dX11_withNext_70 : decode cX11_withNext 70 = .ok (.invokevirtual 115, 3) := by decide +kernel
theorem dX11_withNext_73 : decode cX11_withNext 73 = .ok (.iadd, 1) := by decide +kernel
theorem dX11_withNext_74 : decode cX11_withNext 74 = .ok (.invokestatic 120, 3) := by decide +kernel
theorem dX11_withNext_77 : decode cX11_withNext 77 = .ok (.ireturn, 1) := by decide +kernel
theorem dX11_layRest_0 : decode cX11_layRest 0 = .ok (.aload_n 0, 1) := by decide +kernel
theorem dX11_layRest_1 : decode cX11_layRest 1 = .ok (.invokevirtual 137, 3) := by decide +kernel
theorem dX11_layRest_4 : decode cX11_layRest 4 = .ok (.aload_n 0, 1) := by decide +kernel
theorem dX11_layRest_5 : decode cX11_layRest 5 = .ok (.getfield 93, 3) := by decide +kernel
theorem dX11_layRest_8 : decode cX11_layRest 8 = .ok (.istore_n 1, 1) := by decide +kernel
theorem dX11_layRest_9 : decode cX11_layRest 9 = .ok (.iload_n 1, 1) := by decide +kernel
theorem dX11_layRest_10 : decode cX11_layRest 10 = .ok (.ifCond .lt 112, 3) := by decide +kernel
theorem dX11_layRest_13 : decode cX11_layRest 13 = .ok (.iconst (-1), 1) := by decide +kernel
theorem dX11_layRest_14 : decode cX11_layRest 14 = .ok (.istore_n 2, 1) := by decide +kernel
theorem dX11_layRest_15 : decode cX11_layRest 15 = .ok (.iload_n 2, 1) := by decide +kernel
theorem dX11_layRest_16 : decode cX11_layRest 16 = .ok (.aload_n 0, 1) := by decide +kernel
theorem dX11_layRest_17 : decode cX11_layRest 17 = .ok (.getfield 104, 3) := by decide +kernel
theorem dX11_layRest_20 : decode cX11_layRest 20 = .ok (.if_icmp .ge 96, 3) := by decide +kernel
theorem dX11_layRest_23 : decode cX11_layRest 23 = .ok (.iload_n 1, 1) := by decide +kernel
theorem dX11_layRest_24 : decode cX11_layRest 24 = .ok (.aload_n 0, 1) := by decide +kernel
theorem dX11_layRest_25 : decode cX11_layRest 25 = .ok (.getfield 93, 3) := by decide +kernel
theorem dX11_layRest_28 : decode cX11_layRest 28 = .ok (.if_icmp .ne 26, 3) := by decide +kernel
theorem dX11_layRest_31 : decode cX11_layRest 31 = .ok (.iload_n 2, 1) := by decide +kernel
theorem dX11_layRest_32 : decode cX11_layRest 32 = .ok (.iconst (-1), 1) := by decide +kernel
theorem dX11_layRest_33 : decode cX11_layRest 33 = .ok (.if_icmp .eq 21, 3) := by decide +kernel
theorem dX11_layRest_36 : decode cX11_layRest 36 = .ok (.aload_n 0, 1) := by decide +kernel
theorem dX11_layRest_37 : decode cX11_layRest 37 = .ok (.iload_n 2, 1) := by decide +kernel
theorem dX11_layRest_38 : decode cX11_layRest 38 = .ok (.iconst (-1), 1) := by decide +kernel
theorem dX11_layRest_39 : decode cX11_layRest 39 = .ok (.invokevirtual 115, 3) := by decide +kernel
theorem dX11_layRest_42 : decode cX11_layRest 42 = .ok (.ifCond .lt 12, 3) := by decide +kernel
theorem dX11_layRest_45 : decode cX11_layRest 45 = .ok (.aload_n 0, 1) := by decide +kernel
theorem dX11_layRest_46 : decode cX11_layRest 46 = .ok (.iload_n 2, 1) := by decide +kernel
theorem dX11_layRest_47 : decode cX11_layRest 47 = .ok (.iconst (-1), 1) := by decide +kernel
theorem dX11_layRest_48 : decode cX11_layRest 48 = .ok (.invokevirtual 115, 3) := by decide +kernel
theorem dX11_layRest_51 : decode cX11_layRest 51 = .ok (.goto 5, 3) := by decide +kernel
theorem dX11_layRest_54 : decode cX11_layRest 54 = .ok (.ldc 119, 2) := by decide +kernel
theorem dX11_layRest_56 : decode cX11_layRest 56 = .ok (.istore_n 3, 1) := by decide +kernel
theorem dX11_layRest_57 : decode cX11_layRest 57 = .ok (.iconst 0, 1) := by decide +kernel
theorem dX11_layRest_58 : decode cX11_layRest 58 = .ok (.istore 4, 2) := by decide +kernel
theorem dX11_layRest_60 : decode cX11_layRest 60 = .ok (.iload 4, 2) := by decide +kernel
theorem dX11_layRest_62 : decode cX11_layRest 62 = .ok (.aload_n 0, 1) := by decide +kernel
theorem dX11_layRest_63 : decode cX11_layRest 63 = .ok (.getfield 104, 3) := by decide +kernel
theorem dX11_layRest_66 : decode cX11_layRest 66 = .ok (.if_icmp .ge 22, 3) := by decide +kernel
theorem dX11_layRest_69 : decode cX11_layRest 69 = .ok (.iload_n 3, 1) := by decide +kernel
theorem dX11_layRest_70 : decode cX11_layRest 70 = .ok (.aload_n 0, 1) := by decide +kernel
theorem dX11_layRest_71 : decode cX11_layRest 71 = .ok (.iload_n 1, 1) := by decide +kernel
theorem dX11_layRest_72 : decode cX11_layRest 72 = .ok (.iload_n 2, 1) := by decide +kernel
theorem dX11_layRest_73 : decode cX11_layRest 73 = .ok (.iload 4, 2) := by decide +kernel
theorem dX11_layRest_75 : decode cX11_layRest 75 = .ok (.invokevirtual 140, 3) := by decide +kernel
theorem dX11_layRest_78 : decode cX11_layRest 78 = .ok (.invokestatic 120, 3) := by decide +kernel
theorem dX11_layRest_81 : decode cX11_layRest 81 = .ok (.istore_n 3, 1) := by decide +kernel
theorem dX11_layRest_82 : decode cX11_layRest 82 = .ok (.iinc 4 1, 3) := by decide +kernel
theorem dX11_layRest_85 : decode cX11_layRest 85 = .ok (.goto (-25), 3) := by decide +kernel
theorem dX11_layRest_88 : decode cX11_layRest 88 = .ok (.aload_n 0, 1) := by decide +kernel
theorem dX11_layRest_89 : decode cX11_layRest 89 = .ok (.getfield 71, 3) := by decide +kernel
theorem dX11_layRest_92 : decode cX11_layRest 92 = .ok (.bipush 9, 2) := by decide +kernel
theorem dX11_layRest_94 : decode cX11_layRest 94 = .ok (.iload_n 1, 1) := by decide +kernel
theorem dX11_layRest_95 : decode cX11_layRest 95 = .ok (.imul, 1) := by decide +kernel
theorem dX11_layRest_96 : decode cX11_layRest 96 = .ok (.iload_n 2, 1) := by decide +kernel
theorem dX11_layRest_97 : decode cX11_layRest 97 = .ok (.iconst (-1), 1) := by decide +kernel
theorem dX11_layRest_98 : decode cX11_layRest 98 = .ok (.if_icmp .ne 8, 3) := by decide +kernel
theorem dX11_layRest_101 : decode cX11_layRest 101 = .ok (.bipush 8, 2) := by decide +kernel
theorem dX11_layRest_103 : decode cX11_layRest 103 = .ok (.goto 4, 3) := by decide +kernel
theorem dX11_layRest_106 : decode cX11_layRest 106 = .ok (.iload_n 2, 1) := by decide +kernel
theorem dX11_layRest_107 : decode cX11_layRest 107 = .ok (.iadd, 1) := by decide +kernel
theorem dX11_layRest_108 : decode cX11_layRest 108 = .ok (.iload_n 3, 1) := by decide +kernel
theorem dX11_layRest_109 : decode cX11_layRest 109 = .ok (.iastore, 1) := by decide +kernel
theorem dX11_layRest_110 : decode cX11_layRest 110 = .ok (.iinc 2 1, 3) := by decide +kernel
theorem dX11_layRest_113 : decode cX11_layRest 113 = .ok (.goto (-98), 3) := by decide +kernel
theorem dX11_layRest_116 : decode cX11_layRest 116 = .ok (.iinc 1 (-1), 3) := by decide +kernel
theorem dX11_layRest_119 : decode cX11_layRest 119 = .ok (.goto (-110), 3) := by decide +kernel
theorem dX11_layRest_122 : decode cX11_layRest 122 = .ok (.return_, 1) := by decide +kernel
theorem dX11_leastNow_0 : decode cX11_leastNow 0 = .ok (.aload_n 0, 1) := by decide +kernel
theorem dX11_leastNow_1 : decode cX11_leastNow 1 = .ok (.invokevirtual 143, 3) := by decide +kernel
theorem dX11_leastNow_4 : decode cX11_leastNow 4 = .ok (.aload_n 0, 1) := by decide +kernel
theorem dX11_leastNow_5 : decode cX11_leastNow 5 = .ok (.iconst 0, 1) := by decide +kernel
theorem dX11_leastNow_6 : decode cX11_leastNow 6 = .ok (.iconst (-1), 1) := by decide +kernel
theorem dX11_leastNow_7 : decode cX11_leastNow 7 = .ok (.invokevirtual 134, 3) := by decide +kernel
theorem dX11_leastNow_10 : decode cX11_leastNow 10 = .ok (.ireturn, 1) := by decide +kernel
theorem dX11_least_0 : decode cX11_least 0 = .ok (.aload_n 0, 1) := by decide +kernel
theorem dX11_least_1 : decode cX11_least 1 = .ok (.invokevirtual 146, 3) := by decide +kernel
theorem dX11_least_4 : decode cX11_least 4 = .ok (.istore_n 1, 1) := by decide +kernel
theorem dX11_least_5 : decode cX11_least 5 = .ok (.iload_n 1, 1) := by decide +kernel
theorem dX11_least_6 : decode cX11_least 6 = .ok (.ldc 119, 2) := by decide +kernel
theorem dX11_least_8 : decode cX11_least 8 = .ok (.if_icmp .ne 8, 3) := by decide +kernel
theorem dX11_least_11 : decode cX11_least 11 = .ok (.bipush (-3), 2) := by decide +kernel
theorem dX11_least_13 : decode cX11_least 13 = .ok (.goto 4, 3) := by decide +kernel
theorem dX11_least_16 : decode cX11_least 16 = .ok (.iload_n 1, 1) := by decide +kernel
theorem dX11_least_17 : decode cX11_least 17 = .ok (.ireturn, 1) := by decide +kernel
theorem dX11_goesOn_0 : decode cX11_goesOn 0 = .ok (.iconst 0, 1) := by decide +kernel
theorem dX11_goesOn_1 : decode cX11_goesOn 1 = .ok (.istore 4, 2) := by decide +kernel
theorem dX11_goesOn_3 : decode cX11_goesOn 3 = .ok (.iconst 0, 1) := by decide +kernel
theorem dX11_goesOn_4 : decode cX11_goesOn 4 = .ok (.istore 5, 2) := by decide +kernel
theorem dX11_goesOn_6 : decode cX11_goesOn 6 = .ok (.iload 5, 2) := by decide +kernel
theorem dX11_goesOn_8 : decode cX11_goesOn 8 = .ok (.aload_n 0, 1) := by decide +kernel
theorem dX11_goesOn_9 : decode cX11_goesOn 9 = .ok (.getfield 93, 3) := by decide +kernel
theorem dX11_goesOn_12 : decode cX11_goesOn 12 = .ok (.if_icmp .gt 108, 3) := by decide +kernel
theorem dX11_goesOn_15 : decode cX11_goesOn 15 = .ok (.ldc 119, 2) := by decide +kernel
theorem dX11_goesOn_17 : decode cX11_goesOn 17 = .ok (.istore 6, 2) := by decide +kernel
theorem dX11_goesOn_19 : decode cX11_goesOn 19 = .ok (.iconst 0, 1) := by decide +kernel
theorem dX11_goesOn_20 : decode cX11_goesOn 20 = .ok (.istore 7, 2) := by decide +kernel
theorem dX11_goesOn_22 : decode cX11_goesOn 22 = .ok (.iload 7, 2) := by decide +kernel
theorem dX11_goesOn_24 : decode cX11_goesOn 24 = .ok (.iload 5, 2) := by decide +kernel
theorem dX11_goesOn_26 : decode cX11_goesOn 26 = .ok (.if_icmp .ge 53, 3) := by decide +kernel
theorem dX11_goesOn_29 : decode cX11_goesOn 29 = .ok (.aload_n 0, 1) := by decide +kernel
theorem dX11_goesOn_30 : decode cX11_goesOn 30 = .ok (.iload_n 1, 1) := by decide +kernel
theorem dX11_goesOn_31 : decode cX11_goesOn 31 = .ok (.iload_n 2, 1) := by decide +kernel
theorem dX11_goesOn_32 : decode cX11_goesOn 32 = .ok (.invokevirtual 115, 3) := by decide +kernel
theorem dX11_goesOn_35 : decode cX11_goesOn 35 = .ok (.ifCond .lt 44, 3) := by decide +kernel
theorem dX11_goesOn_38 : decode cX11_goesOn 38 = .ok (.iload 6, 2) := by decide +kernel
theorem dX11_goesOn_40 : decode cX11_goesOn 40 = .ok (.aload_n 0, 1) := by decide +kernel
theorem dX11_goesOn_41 : decode cX11_goesOn 41 = .ok (.getfield 77, 3) := by decide +kernel
theorem dX11_goesOn_44 : decode cX11_goesOn 44 = .ok (.iload 7, 2) := by decide +kernel
theorem dX11_goesOn_46 : decode cX11_goesOn 46 = .ok (.iaload, 1) := by decide +kernel
theorem dX11_goesOn_47 : decode cX11_goesOn 47 = .ok (.aload_n 0, 1) := by decide +kernel
theorem dX11_goesOn_48 : decode cX11_goesOn 48 = .ok (.getfield 62, 3) := by decide +kernel
theorem dX11_goesOn_51 : decode cX11_goesOn 51 = .ok (.iload_n 2, 1) := by decide +kernel
theorem dX11_goesOn_52 : decode cX11_goesOn 52 = .ok (.iload 7, 2) := by decide +kernel
theorem dX11_goesOn_54 : decode cX11_goesOn 54 = .ok (.iload 5, 2) := by decide +kernel
theorem dX11_goesOn_56 : decode cX11_goesOn 56 = .ok (.invokestatic 126, 3) := by decide +kernel
theorem dX11_goesOn_59 : decode cX11_goesOn 59 = .ok (.iaload, 1) := by decide +kernel
theorem dX11_goesOn_60 : decode cX11_goesOn 60 = .ok (.iadd, 1) := by decide +kernel
theorem dX11_goesOn_61 : decode cX11_goesOn 61 = .ok (.aload_n 0, 1) := by decide +kernel
theorem dX11_goesOn_62 : decode cX11_goesOn 62 = .ok (.iload_n 1, 1) := by decide +kernel
theorem dX11_goesOn_63 : decode cX11_goesOn 63 = .ok (.iload_n 2, 1) := by decide +kernel
theorem dX11_goesOn_64 : decode cX11_goesOn 64 = .ok (.invokevirtual 115, 3) := by decide +kernel
theorem dX11_goesOn_67 : decode cX11_goesOn 67 = .ok (.iadd, 1) := by decide +kernel
theorem dX11_goesOn_68 : decode cX11_goesOn 68 = .ok (.invokestatic 120, 3) := by decide +kernel
theorem dX11_goesOn_71 : decode cX11_goesOn 71 = .ok (.istore 6, 2) := by decide +kernel
theorem dX11_goesOn_73 : decode cX11_goesOn 73 = .ok (.iinc 7 1, 3) := by decide +kernel
theorem dX11_goesOn_76 : decode cX11_goesOn 76 = .ok (.goto (-54), 3) := by decide +kernel
theorem dX11_goesOn_79 : decode cX11_goesOn 79 = .ok (.aload_n 0, 1) := by decide +kernel
theorem dX11_goesOn_80 : decode cX11_goesOn 80 = .ok (.getfield 80, 3) := by decide +kernel
theorem dX11_goesOn_83 : decode cX11_goesOn 83 = .ok (.iload 5, 2) := by decide +kernel
theorem dX11_goesOn_85 : decode cX11_goesOn 85 = .ok (.iload 6, 2) := by decide +kernel
theorem dX11_goesOn_87 : decode cX11_goesOn 87 = .ok (.iastore, 1) := by decide +kernel
theorem dX11_goesOn_88 : decode cX11_goesOn 88 = .ok (.iload 4, 2) := by decide +kernel
theorem dX11_goesOn_90 : decode cX11_goesOn 90 = .ok (.ifCond .ne 17, 3) := by decide +kernel
theorem dX11_goesOn_93 : decode cX11_goesOn 93 = .ok (.iload 6, 2) := by decide +kernel
theorem dX11_goesOn_95 : decode cX11_goesOn 95 = .ok (.aload_n 0, 1) := by decide +kernel
theorem dX11_goesOn_96 : decode cX11_goesOn 96 = .ok (.iload 5, 2) := by decide +kernel
theorem dX11_goesOn_98 : decode cX11_goesOn 98 = .ok (.iload_n 2, 1) := by decide +kernel
theorem dX11_goesOn_99 : decode cX11_goesOn 99 = .ok (.invokevirtual 134, 3) := by decide +kernel
theorem dX11_goesOn_102 : decode cX11_goesOn 102 = .ok (.iadd, 1) := by decide +kernel
theorem dX11_goesOn_103 : decode cX11_goesOn 103 = .ok (.iload_n 3, 1) := by decide +kernel
theorem dX11_goesOn_104 : decode cX11_goesOn 104 = .ok (.if_icmp .ne 7, 3) := by decide +kernel
theorem dX11_goesOn_107 : decode cX11_goesOn 107 = .ok (.iconst 1, 1) := by decide +kernel
theorem dX11_goesOn_108 : decode cX11_goesOn 108 = .ok (.goto 4, 3) := by decide +kernel
theorem dX11_goesOn_111 : decode cX11_goesOn 111 = .ok (.iconst 0, 1) := by decide +kernel
theorem dX11_goesOn_112 : decode cX11_goesOn 112 = .ok (.istore 4, 2) := by decide +kernel
theorem dX11_goesOn_114 : decode cX11_goesOn 114 = .ok (.iinc 5 1, 3) := by decide +kernel
theorem dX11_goesOn_117 : decode cX11_goesOn 117 = .ok (.goto (-111), 3) := by decide +kernel
theorem dX11_goesOn_120 : decode cX11_goesOn 120 = .ok (.iload 4, 2) := by decide +kernel
theorem dX11_goesOn_122 : decode cX11_goesOn 122 = .ok (.ireturn, 1) := by decide +kernel
theorem dX11_findRow_0 : decode cX11_findRow 0 = .ok (.aload_n 0, 1) := by decide +kernel
theorem dX11_findRow_1 : decode cX11_findRow 1 = .ok (.invokevirtual 146, 3) := by decide +kernel
theorem dX11_findRow_4 : decode cX11_findRow 4 = .ok (.istore_n 1, 1) := by decide +kernel
theorem dX11_findRow_5 : decode cX11_findRow 5 = .ok (.aload_n 0, 1) := by decide +kernel
theorem dX11_findRow_6 : decode cX11_findRow 6 = .ok (.iconst 0, 1) := by decide +kernel
theorem dX11_findRow_7 : decode cX11_findRow 7 = .ok (.putfield 150, 3) := by decide +kernel
theorem dX11_findRow_10 : decode cX11_findRow 10 = .ok (.iload_n 1, 1) := by decide +kernel
theorem dX11_findRow_11 : decode cX11_findRow 11 = .ok (.ldc 119, 2) := by decide +kernel
theorem dX11_findRow_13 : decode cX11_findRow 13 = .ok (.if_icmp .ne 5, 3) := by decide +kernel
theorem dX11_findRow_16 : decode cX11_findRow 16 = .ok (.iconst 0, 1) := by decide +kernel
theorem dX11_findRow_17 : decode cX11_findRow 17 = .ok (.ireturn, 1) := by decide +kernel
theorem dX11_findRow_18 : decode cX11_findRow 18 = .ok (.iconst 0, 1) := by decide +kernel
theorem dX11_findRow_19 : decode cX11_findRow 19 = .ok (.istore_n 2, 1) := by decide +kernel
theorem dX11_findRow_20 : decode cX11_findRow 20 = .ok (.iload_n 2, 1) := by decide +kernel
theorem dX11_findRow_21 : decode cX11_findRow 21 = .ok (.aload_n 0, 1) := by decide +kernel
theorem dX11_findRow_22 : decode cX11_findRow 22 = .ok (.getfield 93, 3) := by decide +kernel
theorem dX11_findRow_25 : decode cX11_findRow 25 = .ok (.if_icmp .gt 25, 3) := by decide +kernel
theorem dX11_findRow_28 : decode cX11_findRow 28 = .ok (.aload_n 0, 1) := by decide +kernel
theorem dX11_findRow_29 : decode cX11_findRow 29 = .ok (.getfield 77, 3) := by decide +kernel
theorem dX11_findRow_32 : decode cX11_findRow 32 = .ok (.iload_n 2, 1) := by decide +kernel
theorem dX11_findRow_33 : decode cX11_findRow 33 = .ok (.iload_n 2, 1) := by decide +kernel
theorem dX11_findRow_34 : decode cX11_findRow 34 = .ok (.ifCond .ne 7, 3) := by decide +kernel
theorem dX11_findRow_37 : decode cX11_findRow 37 = .ok (.iconst 0, 1) := by decide +kernel
theorem dX11_findRow_38 : decode cX11_findRow 38 = .ok (.goto 5, 3) := by decide +kernel
theorem dX11_findRow_41 : decode cX11_findRow 41 = .ok (.ldc 119, 2) := by decide +kernel
theorem dX11_findRow_43 : decode cX11_findRow 43 = .ok (.iastore, 1) := by decide +kernel
theorem dX11_findRow_44 : decode cX11_findRow 44 = .ok (.iinc 2 1, 3) := by decide +kernel
theorem dX11_findRow_47 : decode cX11_findRow 47 = .ok (.goto (-27), 3) := by decide +kernel
theorem dX11_findRow_50 : decode cX11_findRow 50 = .ok (.iconst (-1), 1) := by decide +kernel
theorem dX11_findRow_51 : decode cX11_findRow 51 = .ok (.istore_n 2, 1) := by decide +kernel
theorem dX11_findRow_52 : decode cX11_findRow 52 = .ok (.iload_n 2, 1) := by decide +kernel
theorem dX11_findRow_53 : decode cX11_findRow 53 = .ok (.iconst (-1), 1) := by decide +kernel
theorem dX11_findRow_54 : decode cX11_findRow 54 = .ok (.if_icmp .eq 32, 3) := by decide +kernel
theorem dX11_findRow_57 : decode cX11_findRow 57 = .ok (.aload_n 0, 1) := by decide +kernel
theorem dX11_findRow_58 : decode cX11_findRow 58 = .ok (.iload_n 2, 1) := by decide +kernel
theorem dX11_findRow_59 : decode cX11_findRow 59 = .ok (.iconst (-1), 1) := by decide +kernel
theorem dX11_findRow_60 : decode cX11_findRow 60 = .ok (.invokevirtual 115, 3) := by decide +kernel
theorem dX11_findRow_63 : decode cX11_findRow 63 = .ok (.ifCond .lt 23, 3) := by decide +kernel
theorem dX11_findRow_66 : decode cX11_findRow 66 = .ok (.aload_n 0, 1) := by decide +kernel
theorem dX11_findRow_67 : decode cX11_findRow 67 = .ok (.getfield 77, 3) := by decide +kernel
theorem dX11_findRow_70 : decode cX11_findRow 70 = .ok (.aload_n 0, 1) := by decide +kernel
theorem dX11_findRow_71 : decode cX11_findRow 71 = .ok (.getfield 93, 3) := by decide +kernel
theorem dX11_findRow_74 : decode cX11_findRow 74 = .ok (.iaload, 1) := by decide +kernel
theorem dX11_findRow_75 : decode cX11_findRow 75 = .ok (.aload_n 0, 1) := by decide +kernel
theorem dX11_findRow_76 : decode cX11_findRow 76 = .ok (.iload_n 2, 1) := by decide +kernel
theorem dX11_findRow_77 : decode cX11_findRow 77 = .ok (.iconst (-1), 1) := by decide +kernel
theorem dX11_findRow_78 : decode cX11_findRow 78 = .ok (.invokevirtual 115, 3) := by decide +kernel
theorem dX11_findRow_81 : decode cX11_findRow 81 = .ok (.iadd, 1) := by decide +kernel
theorem dX11_findRow_82 : decode cX11_findRow 82 = .ok (.iload_n 1, 1) := by decide +kernel
theorem dX11_findRow_83 : decode cX11_findRow 83 = .ok (.if_icmp .eq 78, 3) := by decide +kernel
theorem dX11_findRow_86 : decode cX11_findRow 86 = .ok (.iconst 0, 1) := by decide +kernel
theorem dX11_findRow_87 : decode cX11_findRow 87 = .ok (.istore_n 3, 1) := by decide +kernel
theorem dX11_findRow_88 : decode cX11_findRow 88 = .ok (.aload_n 0, 1) := by decide +kernel
theorem dX11_findRow_89 : decode cX11_findRow 89 = .ok (.iload_n 2, 1) := by decide +kernel
theorem dX11_findRow_90 : decode cX11_findRow 90 = .ok (.iload_n 3, 1) := by decide +kernel
theorem dX11_findRow_91 : decode cX11_findRow 91 = .ok (.iload_n 1, 1) := by decide +kernel
theorem dX11_findRow_92 : decode cX11_findRow 92 = .ok (.invokevirtual 153, 3) := by decide +kernel
theorem dX11_findRow_95 : decode cX11_findRow 95 = .ok (.ifCond .ne 9, 3) := by decide +kernel
theorem dX11_findRow_98 : decode cX11_findRow 98 = .ok (.iinc 3 1, 3) := by decide +kernel
theorem dX11_findRow_101 : decode cX11_findRow 101 = .ok (.goto (-13), 3) := by decide +kernel
theorem dX11_findRow_104 : decode cX11_findRow 104 = .ok (.aload_n 0, 1) := by decide +kernel
theorem dX11_findRow_105 : decode cX11_findRow 105 = .ok (.getfield 74, 3) := by decide +kernel
theorem dX11_findRow_108 : decode cX11_findRow 108 = .ok (.aload_n 0, 1) := by decide +kernel
theorem dX11_findRow_109 : decode cX11_findRow 109 = .ok (.getfield 150, 3) := by decide +kernel
theorem dX11_findRow_112 : decode cX11_findRow 112 = .ok (.iload_n 3, 1) := by decide +kernel
theorem dX11_findRow_113 : decode cX11_findRow 113 = .ok (.iastore, 1) := by decide +kernel
theorem dX11_findRow_114 : decode cX11_findRow 114 = .ok (.aload_n 0, 1) := by decide +kernel
theorem dX11_findRow_115 : decode cX11_findRow 115 = .ok (.dup, 1) := by decide +kernel
theorem dX11_findRow_116 : decode cX11_findRow 116 = .ok (.getfield 150, 3) := by decide +kernel
theorem dX11_findRow_119 : decode cX11_findRow 119 = .ok (.iconst 1, 1) := by decide +kernel
theorem dX11_findRow_120 : decode cX11_findRow 120 = .ok (.iadd, 1) := by decide +kernel
theorem dX11_findRow_121 : decode cX11_findRow 121 = .ok (.putfield 150, 3) := by decide +kernel
theorem dX11_findRow_124 : decode cX11_findRow 124 = .ok (.iload_n 3, 1) := by decide +kernel
theorem dX11_findRow_125 : decode cX11_findRow 125 = .ok (.istore_n 2, 1) := by decide +kernel
theorem dX11_findRow_126 : decode cX11_findRow 126 = .ok (.iconst 0, 1) := by decide +kernel
theorem dX11_findRow_127 : decode cX11_findRow 127 = .ok (.istore 4, 2) := by decide +kernel
theorem dX11_findRow_129 : decode cX11_findRow 129 = .ok (.iload 4, 2) := by decide +kernel
theorem dX11_findRow_131 : decode cX11_findRow 131 = .ok (.aload_n 0, 1) := by decide +kernel
theorem dX11_findRow_132 : decode cX11_findRow 132 = .ok (.getfield 93, 3) := by decide +kernel
theorem dX11_findRow_135 : decode cX11_findRow 135 = .ok (.if_icmp .gt 23, 3) := by decide +kernel
theorem dX11_findRow_138 : decode cX11_findRow 138 = .ok (.aload_n 0, 1) := by decide +kernel
theorem dX11_findRow_139 : decode cX11_findRow 139 = .ok (.getfield 77, 3) := by decide +kernel
theorem dX11_findRow_142 : decode cX11_findRow 142 = .ok (.iload 4, 2) := by decide +kernel
theorem dX11_findRow_144 : decode cX11_findRow 144 = .ok (.aload_n 0, 1) := by decide +kernel
theorem dX11_findRow_145 : decode cX11_findRow 145 = .ok (.getfield 80, 3) := by decide +kernel
theorem dX11_findRow_148 : decode cX11_findRow 148 = .ok (.iload 4, 2) := by decide +kernel
theorem dX11_findRow_150 : decode cX11_findRow 150 = .ok (.iaload, 1) := by decide +kernel
theorem dX11_findRow_151 : decode cX11_findRow 151 = .ok (.iastore, 1) := by decide +kernel
theorem dX11_findRow_152 : decode cX11_findRow 152 = .ok (.iinc 4 1, 3) := by decide +kernel
theorem dX11_findRow_155 : decode cX11_findRow 155 = .ok (.goto (-26), 3) := by decide +kernel
theorem dX11_findRow_158 : decode cX11_findRow 158 = .ok (.goto (-106), 3) := by decide +kernel
theorem dX11_findRow_161 : decode cX11_findRow 161 = .ok (.iconst 1, 1) := by decide +kernel
theorem dX11_findRow_162 : decode cX11_findRow 162 = .ok (.ireturn, 1) := by decide +kernel
theorem dX11_rowSize_0 : decode cX11_rowSize 0 = .ok (.aload_n 0, 1) := by decide +kernel
theorem dX11_rowSize_1 : decode cX11_rowSize 1 = .ok (.invokevirtual 156, 3) := by decide +kernel
theorem dX11_rowSize_4 : decode cX11_rowSize 4 = .ok (.ifCond .eq 10, 3) := by decide +kernel
theorem dX11_rowSize_7 : decode cX11_rowSize 7 = .ok (.aload_n 0, 1) := by decide +kernel
theorem dX11_rowSize_8 : decode cX11_rowSize 8 = .ok (.getfield 150, 3) := by decide +kernel
theorem dX11_rowSize_11 : decode cX11_rowSize 11 = .ok (.goto 5, 3) := by decide +kernel
theorem dX11_rowSize_14 : decode cX11_rowSize 14 = .ok (.bipush (-3), 2) := by decide +kernel
theorem dX11_rowSize_16 : decode cX11_rowSize 16 = .ok (.ireturn, 1) := by decide +kernel
theorem dX11_rowAt_0 : decode cX11_rowAt 0 = .ok (.aload_n 0, 1) := by decide +kernel
theorem dX11_rowAt_1 : decode cX11_rowAt 1 = .ok (.invokevirtual 156, 3) := by decide +kernel
theorem dX11_rowAt_4 : decode cX11_rowAt 4 = .ok (.ifCond .ne 8, 3) := by decide +kernel
theorem dX11_rowAt_7 : decode cX11_rowAt 7 = .ok (.bipush (-3), 2) := by decide +kernel
theorem dX11_rowAt_9 : decode cX11_rowAt 9 = .ok (.goto 28, 3) := by decide +kernel
theorem dX11_rowAt_12 : decode cX11_rowAt 12 = .ok (.iload_n 1, 1) := by decide +kernel
theorem dX11_rowAt_13 : decode cX11_rowAt 13 = .ok (.iconst 0, 1) := by decide +kernel
theorem dX11_rowAt_14 : decode cX11_rowAt 14 = .ok (.aload_n 0, 1) := by decide +kernel
theorem dX11_rowAt_15 : decode cX11_rowAt 15 = .ok (.getfield 150, 3) := by decide +kernel
theorem dX11_rowAt_18 : decode cX11_rowAt 18 = .ok (.iconst 1, 1) := by decide +kernel
theorem dX11_rowAt_19 : decode cX11_rowAt 19 = .ok (.isub, 1) := by decide +kernel
theorem dX11_rowAt_20 : decode cX11_rowAt 20 = .ok (.invokestatic 89, 3) := by decide +kernel
theorem dX11_rowAt_23 : decode cX11_rowAt 23 = .ok (.ifCond .eq 12, 3) := by decide +kernel
theorem dX11_rowAt_26 : decode cX11_rowAt 26 = .ok (.aload_n 0, 1) := by decide +kernel
theorem dX11_rowAt_27 : decode cX11_rowAt 27 = .ok (.getfield 74, 3) := by decide +kernel
theorem dX11_rowAt_30 : decode cX11_rowAt 30 = .ok (.iload_n 1, 1) := by decide +kernel
theorem dX11_rowAt_31 : decode cX11_rowAt 31 = .ok (.iaload, 1) := by decide +kernel
theorem dX11_rowAt_32 : decode cX11_rowAt 32 = .ok (.goto 5, 3) := by decide +kernel
theorem dX11_rowAt_35 : decode cX11_rowAt 35 = .ok (.bipush (-2), 2) := by decide +kernel
theorem dX11_rowAt_37 : decode cX11_rowAt 37 = .ok (.ireturn, 1) := by decide +kernel
theorem dX11_beside_0 : decode cX11_beside 0 = .ok (.aload_n 0, 1) := by decide +kernel
theorem dX11_beside_1 : decode cX11_beside 1 = .ok (.invokevirtual 156, 3) := by decide +kernel
theorem dX11_beside_4 : decode cX11_beside 4 = .ok (.ifCond .ne 6, 3) := by decide +kernel
theorem dX11_beside_7 : decode cX11_beside 7 = .ok (.bipush (-3), 2) := by decide +kernel
theorem dX11_beside_9 : decode cX11_beside 9 = .ok (.ireturn, 1) := by decide +kernel
theorem dX11_beside_10 : decode cX11_beside 10 = .ok (.ldc 119, 2) := by decide +kernel
theorem dX11_beside_12 : decode cX11_beside 12 = .ok (.istore_n 1, 1) := by decide +kernel
theorem dX11_beside_13 : decode cX11_beside 13 = .ok (.iconst 0, 1) := by decide +kernel
theorem dX11_beside_14 : decode cX11_beside 14 = .ok (.istore_n 2, 1) := by decide +kernel
theorem dX11_beside_15 : decode cX11_beside 15 = .ok (.iload_n 2, 1) := by decide +kernel
theorem dX11_beside_16 : decode cX11_beside 16 = .ok (.aload_n 0, 1) := by decide +kernel
theorem dX11_beside_17 : decode cX11_beside 17 = .ok (.getfield 104, 3) := by decide +kernel
theorem dX11_beside_20 : decode cX11_beside 20 = .ok (.if_icmp .ge 35, 3) := by decide +kernel
theorem dX11_beside_23 : decode cX11_beside 23 = .ok (.iload_n 2, 1) := by decide +kernel
theorem dX11_beside_24 : decode cX11_beside 24 = .ok (.aload_n 0, 1) := by decide +kernel
theorem dX11_beside_25 : decode cX11_beside 25 = .ok (.getfield 74, 3) := by decide +kernel
theorem dX11_beside_28 : decode cX11_beside 28 = .ok (.iconst 0, 1) := by decide +kernel
theorem dX11_beside_29 : decode cX11_beside 29 = .ok (.iaload, 1) := by decide +kernel
theorem dX11_beside_30 : decode cX11_beside 30 = .ok (.if_icmp .ne 7, 3) := by decide +kernel
theorem dX11_beside_33 : decode cX11_beside 33 = .ok (.iload_n 1, 1) := by decide +kernel
theorem dX11_beside_34 : decode cX11_beside 34 = .ok (.goto 14, 3) := by decide +kernel
theorem dX11_beside_37 : decode cX11_beside 37 = .ok (.iload_n 1, 1) := by decide +kernel
theorem dX11_beside_38 : decode cX11_beside 38 = .ok (.aload_n 0, 1) := by decide +kernel
theorem dX11_beside_39 : decode cX11_beside 39 = .ok (.iconst 0, 1) := by decide +kernel
theorem dX11_beside_40 : decode cX11_beside 40 = .ok (.iconst (-1), 1) := by decide +kernel
theorem dX11_beside_41 : decode cX11_beside 41 = .ok (.iload_n 2, 1) := by decide +kernel
theorem dX11_beside_42 : decode cX11_beside 42 = .ok (.invokevirtual 140, 3) := by decide +kernel
theorem dX11_beside_45 : decode cX11_beside 45 = .ok (.invokestatic 120, 3) := by decide +kernel
theorem dX11_beside_48 : decode cX11_beside 48 = .ok (.istore_n 1, 1) := by decide +kernel
theorem dX11_beside_49 : decode cX11_beside 49 = .ok (.iinc 2 1, 3) := by decide +kernel
theorem dX11_beside_52 : decode cX11_beside 52 = .ok (.goto (-37), 3) := by decide +kernel
theorem dX11_beside_55 : decode cX11_beside 55 = .ok (.iload_n 1, 1) := by decide +kernel
theorem dX11_beside_56 : decode cX11_beside 56 = .ok (.ldc 119, 2) := by decide +kernel
theorem dX11_beside_58 : decode cX11_beside 58 = .ok (.if_icmp .ne 7, 3) := by decide +kernel
theorem dX11_beside_61 : decode cX11_beside 61 = .ok (.iconst (-1), 1) := by decide +kernel
theorem dX11_beside_62 : decode cX11_beside 62 = .ok (.goto 4, 3) := by decide +kernel
theorem dX11_beside_65 : decode cX11_beside 65 = .ok (.iload_n 1, 1) := by decide +kernel
theorem dX11_beside_66 : decode cX11_beside 66 = .ok (.ireturn, 1) := by decide +kernel
theorem dX11_say_0 : decode cX11_say 0 = .ok (.aload_n 0, 1) := by decide +kernel
theorem dX11_say_1 : decode cX11_say 1 = .ok (.iload_n 1, 1) := by decide +kernel
theorem dX11_say_2 : decode cX11_say 2 = .ok (.invokevirtual 111, 3) := by decide +kernel
theorem dX11_say_5 : decode cX11_say 5 = .ok (.ifCond .ne 6, 3) := by decide +kernel
theorem dX11_say_8 : decode cX11_say 8 = .ok (.bipush (-2), 2) := by decide +kernel
theorem dX11_say_10 : decode cX11_say 10 = .ok (.ireturn, 1) := by decide +kernel
theorem dX11_say_11 : decode cX11_say 11 = .ok (.aload_n 0, 1) := by decide +kernel
theorem dX11_say_12 : decode cX11_say 12 = .ok (.getfield 160, 3) := by decide +kernel
theorem dX11_say_15 : decode cX11_say 15 = .ok (.bipush 12, 2) := by decide +kernel
theorem dX11_say_17 : decode cX11_say 17 = .ok (.if_icmp .ne 6, 3) := by decide +kernel
theorem dX11_say_20 : decode cX11_say 20 = .ok (.bipush (-4), 2) := by decide +kernel
theorem dX11_say_22 : decode cX11_say 22 = .ok (.ireturn, 1) := by decide +kernel
theorem dX11_say_23 : decode cX11_say 23 = .ok (.aload_n 0, 1) := by decide +kernel
theorem dX11_say_24 : decode cX11_say 24 = .ok (.getfield 32, 3) := by decide +kernel
theorem dX11_say_27 : decode cX11_say 27 = .ok (.aload_n 0, 1) := by decide +kernel
theorem dX11_say_28 : decode cX11_say 28 = .ok (.getfield 160, 3) := by decide +kernel
theorem dX11_say_31 : decode cX11_say 31 = .ok (.iload_n 1, 1) := by decide +kernel
theorem dX11_say_32 : decode cX11_say 32 = .ok (.iastore, 1) := by decide +kernel
theorem dX11_say_33 : decode cX11_say 33 = .ok (.aload_n 0, 1) := by decide +kernel
theorem dX11_say_34 : decode cX11_say 34 = .ok (.dup, 1) := by decide +kernel
theorem dX11_say_35 : decode cX11_say 35 = .ok (.getfield 160, 3) := by decide +kernel
theorem dX11_say_38 : decode cX11_say 38 = .ok (.iconst 1, 1) := by decide +kernel
theorem dX11_say_39 : decode cX11_say 39 = .ok (.iadd, 1) := by decide +kernel
theorem dX11_say_40 : decode cX11_say 40 = .ok (.putfield 160, 3) := by decide +kernel
theorem dX11_say_43 : decode cX11_say 43 = .ok (.aload_n 0, 1) := by decide +kernel
theorem dX11_say_44 : decode cX11_say 44 = .ok (.iconst 0, 1) := by decide +kernel
theorem dX11_say_45 : decode cX11_say 45 = .ok (.putfield 96, 3) := by decide +kernel
theorem dX11_say_48 : decode cX11_say 48 = .ok (.aload_n 0, 1) := by decide +kernel
theorem dX11_say_49 : decode cX11_say 49 = .ok (.getfield 160, 3) := by decide +kernel
theorem dX11_say_52 : decode cX11_say 52 = .ok (.ireturn, 1) := by decide +kernel
theorem dX11_unsay_0 : decode cX11_unsay 0 = .ok (.aload_n 0, 1) := by decide +kernel
theorem dX11_unsay_1 : decode cX11_unsay 1 = .ok (.getfield 160, 3) := by decide +kernel
theorem dX11_unsay_4 : decode cX11_unsay 4 = .ok (.istore_n 1, 1) := by decide +kernel
theorem dX11_unsay_5 : decode cX11_unsay 5 = .ok (.aload_n 0, 1) := by decide +kernel
theorem dX11_unsay_6 : decode cX11_unsay 6 = .ok (.iconst 0, 1) := by decide +kernel
theorem dX11_unsay_7 : decode cX11_unsay 7 = .ok (.putfield 160, 3) := by decide +kernel
theorem dX11_unsay_10 : decode cX11_unsay 10 = .ok (.aload_n 0, 1) := by decide +kernel
theorem dX11_unsay_11 : decode cX11_unsay 11 = .ok (.iconst 0, 1) := by decide +kernel
theorem dX11_unsay_12 : decode cX11_unsay 12 = .ok (.putfield 96, 3) := by decide +kernel
theorem dX11_unsay_15 : decode cX11_unsay 15 = .ok (.iload_n 1, 1) := by decide +kernel
theorem dX11_unsay_16 : decode cX11_unsay 16 = .ok (.ireturn, 1) := by decide +kernel
theorem dX11_aheadAt_0 : decode cX11_aheadAt 0 = .ok (.iconst 2, 1) := by decide +kernel
theorem dX11_aheadAt_1 : decode cX11_aheadAt 1 = .ok (.iload_n 0, 1) := by decide +kernel
theorem dX11_aheadAt_2 : decode cX11_aheadAt 2 = .ok (.imul, 1) := by decide +kernel
theorem dX11_aheadAt_3 : decode cX11_aheadAt 3 = .ok (.iload_n 1, 1) := by decide +kernel
theorem dX11_aheadAt_4 : decode cX11_aheadAt 4 = .ok (.iadd, 1) := by decide +kernel
theorem dX11_aheadAt_5 : decode cX11_aheadAt 5 = .ok (.iconst 4, 1) := by decide +kernel
theorem dX11_aheadAt_6 : decode cX11_aheadAt 6 = .ok (.imul, 1) := by decide +kernel
theorem dX11_aheadAt_7 : decode cX11_aheadAt 7 = .ok (.iload_n 2, 1) := by decide +kernel
theorem dX11_aheadAt_8 : decode cX11_aheadAt 8 = .ok (.iadd, 1) := by decide +kernel
theorem dX11_aheadAt_9 : decode cX11_aheadAt 9 = .ok (.bipush 41, 2) := by decide +kernel
theorem dX11_aheadAt_11 : decode cX11_aheadAt 11 = .ok (.imul, 1) := by decide +kernel
theorem dX11_aheadAt_12 : decode cX11_aheadAt 12 = .ok (.iload_n 3, 1) := by decide +kernel
theorem dX11_aheadAt_13 : decode cX11_aheadAt 13 = .ok (.iadd, 1) := by decide +kernel
theorem dX11_aheadAt_14 : decode cX11_aheadAt 14 = .ok (.ireturn, 1) := by decide +kernel
theorem dX11_behindWord_0 : decode cX11_behindWord 0 = .ok (.iload_n 1, 1) := by decide +kernel
theorem dX11_behindWord_1 : decode cX11_behindWord 1 = .ok (.aload_n 0, 1) := by decide +kernel
theorem dX11_behindWord_2 : decode cX11_behindWord 2 = .ok (.getfield 160, 3) := by decide +kernel
theorem dX11_behindWord_5 : decode cX11_behindWord 5 = .ok (.iconst 1, 1) := by decide +kernel
theorem dX11_behindWord_6 : decode cX11_behindWord 6 = .ok (.isub, 1) := by decide +kernel
theorem dX11_behindWord_7 : decode cX11_behindWord 7 = .ok (.if_icmp .ne 42, 3) := by decide +kernel
theorem dX11_behindWord_10 : decode cX11_behindWord 10 = .ok (.iload_n 2, 1) := by decide +kernel
theorem dX11_behindWord_11 : decode cX11_behindWord 11 = .ok (.aload_n 0, 1) := by decide +kernel
theorem dX11_behindWord_12 : decode cX11_behindWord 12 = .ok (.getfield 93, 3) := by decide +kernel
theorem dX11_behindWord_15 : decode cX11_behindWord 15 = .ok (.if_icmp .ne 31, 3) := by decide +kernel
theorem dX11_behindWord_18 : decode cX11_behindWord 18 = .ok (.aload_n 0, 1) := by decide +kernel
theorem dX11_behindWord_19 : decode cX11_behindWord 19 = .ok (.aload_n 0, 1) := by decide +kernel
theorem dX11_behindWord_20 : decode cX11_behindWord 20 = .ok (.getfield 32, 3) := by decide +kernel
theorem dX11_behindWord_23 : decode cX11_behindWord 23 = .ok (.iload_n 1, 1) := by decide +kernel
theorem dX11_behindWord_24 : decode cX11_behindWord 24 = .ok (.iaload, 1) := by decide +kernel
theorem dX11_behindWord_25 : decode cX11_behindWord 25 = .ok (.iconst (-1), 1) := by decide +kernel
theorem dX11_behindWord_26 : decode cX11_behindWord 26 = .ok (.invokevirtual 115, 3) := by decide +kernel
theorem dX11_behindWord_29 : decode cX11_behindWord 29 = .ok (.ifCond .lt 17, 3) := by decide +kernel
theorem dX11_behindWord_32 : decode cX11_behindWord 32 = .ok (.aload_n 0, 1) := by decide +kernel
theorem dX11_behindWord_33 : decode cX11_behindWord 33 = .ok (.aload_n 0, 1) := by decide +kernel
theorem dX11_behindWord_34 : decode cX11_behindWord 34 = .ok (.getfield 32, 3) := by decide +kernel
theorem dX11_behindWord_37 : decode cX11_behindWord 37 = .ok (.iload_n 1, 1) := by decide +kernel
theorem dX11_behindWord_38 : decode cX11_behindWord 38 = .ok (.iaload, 1) := by decide +kernel
theorem dX11_behindWord_39 : decode cX11_behindWord 39 = .ok (.iconst (-1), 1) := by decide +kernel
theorem dX11_behindWord_40 : decode cX11_behindWord 40 = .ok (.invokevirtual 115, 3) := by decide +kernel
theorem dX11_behindWord_43 : decode cX11_behindWord 43 = .ok (.goto 5, 3) := by decide +kernel
theorem dX11_behindWord_46 : decode cX11_behindWord 46 = .ok (.ldc 119, 2) := by decide +kernel
theorem dX11_behindWord_48 : decode cX11_behindWord 48 = .ok (.ireturn, 1) := by decide +kernel
theorem dX11_behindWord_49 : decode cX11_behindWord 49 = .ok (.aload_n 0, 1) := by decide +kernel
theorem dX11_behindWord_50 : decode cX11_behindWord 50 = .ok (.aload_n 0, 1) := by decide +kernel
theorem dX11_behindWord_51 : decode cX11_behindWord 51 = .ok (.getfield 32, 3) := by decide +kernel
theorem dX11_behindWord_54 : decode cX11_behindWord 54 = .ok (.iload_n 1, 1) := by decide +kernel
theorem dX11_behindWord_55 : decode cX11_behindWord 55 = .ok (.iaload, 1) := by decide +kernel
theorem dX11_behindWord_56 : decode cX11_behindWord 56 = .ok (.aload_n 0, 1) := by decide +kernel
theorem dX11_behindWord_57 : decode cX11_behindWord 57 = .ok (.getfield 32, 3) := by decide +kernel
theorem dX11_behindWord_60 : decode cX11_behindWord 60 = .ok (.iload_n 1, 1) := by decide +kernel
theorem dX11_behindWord_61 : decode cX11_behindWord 61 = .ok (.iconst 1, 1) := by decide +kernel
theorem dX11_behindWord_62 : decode cX11_behindWord 62 = .ok (.iadd, 1) := by decide +kernel
theorem dX11_behindWord_63 : decode cX11_behindWord 63 = .ok (.iaload, 1) := by decide +kernel
theorem dX11_behindWord_64 : decode cX11_behindWord 64 = .ok (.invokevirtual 115, 3) := by decide +kernel
theorem dX11_behindWord_67 : decode cX11_behindWord 67 = .ok (.istore_n 3, 1) := by decide +kernel
theorem dX11_behindWord_68 : decode cX11_behindWord 68 = .ok (.iload_n 3, 1) := by decide +kernel
theorem dX11_behindWord_69 : decode cX11_behindWord 69 = .ok (.ifCond .ge 8, 3) := by decide +kernel
theorem dX11_behindWord_72 : decode cX11_behindWord 72 = .ok (.ldc 119, 2) := by decide +kernel
theorem dX11_behindWord_74 : decode cX11_behindWord 74 = .ok (.goto 18, 3) := by decide +kernel
theorem dX11_behindWord_77 : decode cX11_behindWord 77 = .ok (.ldc 119, 2) := by decide +kernel
theorem dX11_behindWord_79 : decode cX11_behindWord 79 = .ok (.iload_n 3, 1) := by decide +kernel
theorem dX11_behindWord_80 : decode cX11_behindWord 80 = .ok (.aload_n 0, 1) := by decide +kernel
theorem dX11_behindWord_81 : decode cX11_behindWord 81 = .ok (.iload_n 1, 1) := by decide +kernel
theorem dX11_behindWord_82 : decode cX11_behindWord 82 = .ok (.iconst 1, 1) := by decide +kernel
theorem dX11_behindWord_83 : decode cX11_behindWord 83 = .ok (.iadd, 1) := by decide +kernel
theorem dX11_behindWord_84 : decode cX11_behindWord 84 = .ok (.iload_n 2, 1) := by decide +kernel
theorem dX11_behindWord_85 : decode cX11_behindWord 85 = .ok (.invokevirtual 163, 3) := by decide +kernel
theorem dX11_behindWord_88 : decode cX11_behindWord 88 = .ok (.iadd, 1) := by decide +kernel
theorem dX11_behindWord_89 : decode cX11_behindWord 89 = .ok (.invokestatic 120, 3) := by decide +kernel
theorem dX11_behindWord_92 : decode cX11_behindWord 92 = .ok (.ireturn, 1) := by decide +kernel
theorem dX11_bestWay_0 : decode cX11_bestWay 0 = .ok (.ldc 119, 2) := by decide +kernel
theorem dX11_bestWay_2 : decode cX11_bestWay 2 = .ok (.istore_n 3, 1) := by decide +kernel
theorem dX11_bestWay_3 : decode cX11_bestWay 3 = .ok (.iconst 0, 1) := by decide +kernel
theorem dX11_bestWay_4 : decode cX11_bestWay 4 = .ok (.istore 4, 2) := by decide +kernel
theorem dX11_bestWay_6 : decode cX11_bestWay 6 = .ok (.iload 4, 2) := by decide +kernel
theorem dX11_bestWay_8 : decode cX11_bestWay 8 = .ok (.aload_n 0, 1) := by decide +kernel
theorem dX11_bestWay_9 : decode cX11_bestWay 9 = .ok (.getfield 20, 3) := by decide +kernel
theorem dX11_bestWay_12 : decode cX11_bestWay 12 = .ok (.aload_n 0, 1) := by decide +kernel
theorem dX11_bestWay_13 : decode cX11_bestWay 13 = .ok (.getfield 32, 3) := by decide +kernel
theorem dX11_bestWay_16 : decode cX11_bestWay 16 = .ok (.iload_n 1, 1) := by decide +kernel
theorem dX11_bestWay_17 : decode cX11_bestWay 17 = .ok (.iaload, 1) := by decide +kernel
theorem dX11_bestWay_18 : decode cX11_bestWay 18 = .ok (.iaload, 1) := by decide +kernel
theorem dX11_bestWay_19 : decode cX11_bestWay 19 = .ok (.if_icmp .ge 35, 3) := by decide +kernel
theorem dX11_bestWay_22 : decode cX11_bestWay 22 = .ok (.iload_n 2, 1) := by decide +kernel
theorem dX11_bestWay_23 : decode cX11_bestWay 23 = .ok (.aload_n 0, 1) := by decide +kernel
theorem dX11_bestWay_24 : decode cX11_bestWay 24 = .ok (.getfield 93, 3) := by decide +kernel
theorem dX11_bestWay_27 : decode cX11_bestWay 27 = .ok (.if_icmp .ge 27, 3) := by decide +kernel
theorem dX11_bestWay_30 : decode cX11_bestWay 30 = .ok (.iload_n 3, 1) := by decide +kernel
theorem dX11_bestWay_31 : decode cX11_bestWay 31 = .ok (.aload_n 0, 1) := by decide +kernel
theorem dX11_bestWay_32 : decode cX11_bestWay 32 = .ok (.getfield 83, 3) := by decide +kernel
theorem dX11_bestWay_35 : decode cX11_bestWay 35 = .ok (.iload_n 1, 1) := by decide +kernel
theorem dX11_bestWay_36 : decode cX11_bestWay 36 = .ok (.iload 4, 2) := by decide +kernel
theorem dX11_bestWay_38 : decode cX11_bestWay 38 = .ok (.iconst 0, 1) := by decide +kernel
theorem dX11_bestWay_39 : decode cX11_bestWay 39 = .ok (.iload_n 2, 1) := by decide +kernel
theorem dX11_bestWay_40 : decode cX11_bestWay 40 = .ok (.invokestatic 166, 3) := by decide +kernel
theorem dX11_bestWay_43 : decode cX11_bestWay 43 = .ok (.iaload, 1) := by decide +kernel
theorem dX11_bestWay_44 : decode cX11_bestWay 44 = .ok (.invokestatic 120, 3) := by decide +kernel
theorem dX11_bestWay_47 : decode cX11_bestWay 47 = .ok (.istore_n 3, 1) := by decide +kernel
theorem dX11_bestWay_48 : decode cX11_bestWay 48 = .ok (.iinc 4 1, 3) := by decide +kernel
theorem dX11_bestWay_51 : decode cX11_bestWay 51 = .ok (.goto (-45), 3) := by decide +kernel
theorem dX11_bestWay_54 : decode cX11_bestWay 54 = .ok (.iload_n 3, 1) := by decide +kernel
theorem dX11_bestWay_55 : decode cX11_bestWay 55 = .ok (.ireturn, 1) := by decide +kernel
theorem dX11_soundTo_0 : decode cX11_soundTo 0 = .ok (.iconst 2, 1) := by decide +kernel
theorem dX11_soundTo_1 : decode cX11_soundTo 1 = .ok (.aload_n 0, 1) := by decide +kernel
theorem dX11_soundTo_2 : decode cX11_soundTo 2 = .ok (.getfield 32, 3) := by decide +kernel
theorem dX11_soundTo_5 : decode cX11_soundTo 5 = .ok (.iload_n 1, 1) := by decide +kernel
theorem dX11_soundTo_6 : decode cX11_soundTo 6 = .ok (.iaload, 1) := by decide +kernel
theorem dX11_soundTo_7 : decode cX11_soundTo 7 = .ok (.imul, 1) := by decide +kernel
theorem dX11_soundTo_8 : decode cX11_soundTo 8 = .ok (.iload_n 2, 1) := by decide +kernel
theorem dX11_soundTo_9 : decode cX11_soundTo 9 = .ok (.iadd, 1) := by decide +kernel
theorem dX11_soundTo_10 : decode cX11_soundTo 10 = .ok (.istore 6, 2) := by decide +kernel
theorem dX11_soundTo_12 : decode cX11_soundTo 12 = .ok (.aload_n 0, 1) := by decide +kernel
theorem dX11_soundTo_13 : decode cX11_soundTo 13 = .ok (.getfield 16, 3) := by decide +kernel
theorem dX11_soundTo_16 : decode cX11_soundTo 16 = .ok (.iload 5, 2) := by decide +kernel
theorem dX11_soundTo_18 : decode cX11_soundTo 18 = .ok (.iload 4, 2) := by decide +kernel
theorem dX11_soundTo_20 : decode cX11_soundTo 20 = .ok (.isub, 1) := by decide +kernel
theorem dX11_soundTo_21 : decode cX11_soundTo 21 = .ok (.iconst 1, 1) := by decide +kernel
theorem dX11_soundTo_22 : decode cX11_soundTo 22 = .ok (.isub, 1) := by decide +kernel
theorem dX11_soundTo_23 : decode cX11_soundTo 23 = .ok (.imul, 1) := by decide +kernel
theorem dX11_soundTo_24 : decode cX11_soundTo 24 = .ok (.istore 7, 2) := by decide +kernel
theorem dX11_soundTo_26 : decode cX11_soundTo 26 = .ok (.iload 4, 2) := by decide +kernel
theorem dX11_soundTo_28 : decode cX11_soundTo 28 = .ok (.istore 8, 2) := by decide +kernel
theorem dX11_soundTo_30 : decode cX11_soundTo 30 = .ok (.iload 8, 2) := by decide +kernel
theorem dX11_soundTo_32 : decode cX11_soundTo 32 = .ok (.iload 5, 2) := by decide +kernel
theorem dX11_soundTo_34 : decode cX11_soundTo 34 = .ok (.if_icmp .ge 31, 3) := by decide +kernel
theorem dX11_soundTo_37 : decode cX11_soundTo 37 = .ok (.iload 7, 2) := by decide +kernel
theorem dX11_soundTo_39 : decode cX11_soundTo 39 = .ok (.aload_n 0, 1) := by decide +kernel
theorem dX11_soundTo_40 : decode cX11_soundTo 40 = .ok (.aload_n 0, 1) := by decide +kernel
theorem dX11_soundTo_41 : decode cX11_soundTo 41 = .ok (.getfield 26, 3) := by decide +kernel
theorem dX11_soundTo_44 : decode cX11_soundTo 44 = .ok (.iconst 4, 1) := by decide +kernel
theorem dX11_soundTo_45 : decode cX11_soundTo 45 = .ok (.iload 6, 2) := by decide +kernel
theorem dX11_soundTo_47 : decode cX11_soundTo 47 = .ok (.imul, 1) := by decide +kernel
theorem dX11_soundTo_48 : decode cX11_soundTo 48 = .ok (.iload_n 3, 1) := by decide +kernel
theorem dX11_soundTo_49 : decode cX11_soundTo 49 = .ok (.iadd, 1) := by decide +kernel
theorem dX11_soundTo_50 : decode cX11_soundTo 50 = .ok (.iaload, 1) := by decide +kernel
theorem dX11_soundTo_51 : decode cX11_soundTo 51 = .ok (.iload 8, 2) := by decide +kernel
theorem dX11_soundTo_53 : decode cX11_soundTo 53 = .ok (.invokevirtual 123, 3) := by decide +kernel
theorem dX11_soundTo_56 : decode cX11_soundTo 56 = .ok (.iadd, 1) := by decide +kernel
theorem dX11_soundTo_57 : decode cX11_soundTo 57 = .ok (.istore 7, 2) := by decide +kernel
theorem dX11_soundTo_59 : decode cX11_soundTo 59 = .ok (.iinc 8 1, 3) := by decide +kernel
theorem dX11_soundTo_62 : decode cX11_soundTo 62 = .ok (.goto (-32), 3) := by decide +kernel
theorem dX11_soundTo_65 : decode cX11_soundTo 65 = .ok (.iload_n 3, 1) := by decide +kernel
theorem dX11_soundTo_66 : decode cX11_soundTo 66 = .ok (.aload_n 0, 1) := by decide +kernel
theorem dX11_soundTo_67 : decode cX11_soundTo 67 = .ok (.getfield 23, 3) := by decide +kernel
theorem dX11_soundTo_70 : decode cX11_soundTo 70 = .ok (.iload 6, 2) := by decide +kernel
theorem dX11_soundTo_72 : decode cX11_soundTo 72 = .ok (.iaload, 1) := by decide +kernel
theorem dX11_soundTo_73 : decode cX11_soundTo 73 = .ok (.iconst 1, 1) := by decide +kernel
theorem dX11_soundTo_74 : decode cX11_soundTo 74 = .ok (.isub, 1) := by decide +kernel
theorem dX11_soundTo_75 : decode cX11_soundTo 75 = .ok (.if_icmp .ne 7, 3) := by decide +kernel
theorem dX11_soundTo_78 : decode cX11_soundTo 78 = .ok (.iconst 1, 1) := by decide +kernel
theorem dX11_soundTo_79 : decode cX11_soundTo 79 = .ok (.goto 4, 3) := by decide +kernel
theorem dX11_soundTo_82 : decode cX11_soundTo 82 = .ok (.iconst 0, 1) := by decide +kernel
theorem dX11_soundTo_83 : decode cX11_soundTo 83 = .ok (.istore 8, 2) := by decide +kernel
theorem dX11_soundTo_85 : decode cX11_soundTo 85 = .ok (.iload 8, 2) := by decide +kernel
theorem dX11_soundTo_87 : decode cX11_soundTo 87 = .ok (.ifCond .eq 13, 3) := by decide +kernel
theorem dX11_soundTo_90 : decode cX11_soundTo 90 = .ok (.aload_n 0, 1) := by decide +kernel
theorem dX11_soundTo_91 : decode cX11_soundTo 91 = .ok (.iload_n 1, 1) := by decide +kernel
theorem dX11_soundTo_92 : decode cX11_soundTo 92 = .ok (.iload 5, 2) := by decide +kernel
theorem dX11_soundTo_94 : decode cX11_soundTo 94 = .ok (.invokevirtual 169, 3) := by decide +kernel
theorem dX11_soundTo_97 : decode cX11_soundTo 97 = .ok (.goto 32, 3) := by decide +kernel
theorem dX11_soundTo_100 : decode cX11_soundTo 100 = .ok (.iload 5, 2) := by decide +kernel
theorem dX11_soundTo_102 : decode cX11_soundTo 102 = .ok (.aload_n 0, 1) := by decide +kernel
theorem dX11_soundTo_103 : decode cX11_soundTo 103 = .ok (.getfield 93, 3) := by decide +kernel
theorem dX11_soundTo_106 : decode cX11_soundTo 106 = .ok (.if_icmp .ge 21, 3) := by decide +kernel
theorem dX11_soundTo_109 : decode cX11_soundTo 109 = .ok (.aload_n 0, 1) := by decide +kernel
theorem dX11_soundTo_110 : decode cX11_soundTo 110 = .ok (.getfield 83, 3) := by decide +kernel
theorem dX11_soundTo_113 : decode cX11_soundTo 113 = .ok (.iload_n 1, 1) := by decide +kernel
theorem dX11_soundTo_114 : decode cX11_soundTo 114 = .ok (.iload_n 2, 1) := by decide +kernel
theorem dX11_soundTo_115 : decode cX11_soundTo 115 = .ok (.iload_n 3, 1) := by decide +kernel
theorem dX11_soundTo_116 : decode cX11_soundTo 116 = .ok (.iconst 1, 1) := by decide +kernel
theorem dX11_soundTo_117 : decode cX11_soundTo 117 = .ok (.iadd, 1) := by decide +kernel
theorem dX11_soundTo_118 : decode cX11_soundTo 118 = .ok (.iload 5, 2) := by decide +kernel
theorem dX11_soundTo_120 : decode cX11_soundTo 120 = .ok (.invokestatic 166, 3) := by decide +kernel
theorem dX11_soundTo_123 : decode cX11_soundTo 123 = .ok (.iaload, 1) := by decide +kernel
theorem dX11_soundTo_124 : decode cX11_soundTo 124 = .ok (.goto 5, 3) := by decide +kernel
theorem dX11_soundTo_127 : decode cX11_soundTo 127 = .ok (.ldc 119, 2) := by decide +kernel
theorem dX11_soundTo_129 : decode cX11_soundTo 129 = .ok (.istore 9, 2) := by decide +kernel
theorem dX11_soundTo_131 : decode cX11_soundTo 131 = .ok (.ldc 119, 2) := by decide +kernel
theorem dX11_soundTo_133 : decode cX11_soundTo 133 = .ok (.iload 7, 2) := by decide +kernel
theorem dX11_soundTo_135 : decode cX11_soundTo 135 = .ok (.iload 9, 2) := by decide +kernel
theorem dX11_soundTo_137 : decode cX11_soundTo 137 = .ok (.iadd, 1) := by decide +kernel
theorem dX11_soundTo_138 : decode cX11_soundTo 138 = .ok (.invokestatic 120, 3) := by decide +kernel
theorem dX11_soundTo_141 : decode cX11_soundTo 141 = .ok (.ireturn, 1) := by decide +kernel
theorem dX11_layAhead_0 : decode cX11_layAhead 0 = .ok (.aload_n 0, 1) := by decide +kernel
theorem dX11_layAhead_1 : decode cX11_layAhead 1 = .ok (.getfield 160, 3) := by decide +kernel
theorem dX11_layAhead_4 : decode cX11_layAhead 4 = .ok (.iconst 1, 1) := by decide +kernel
theorem dX11_layAhead_5 : decode cX11_layAhead 5 = .ok (.isub, 1) := by decide +kernel
theorem dX11_layAhead_6 : decode cX11_layAhead 6 = .ok (.istore_n 1, 1) := by decide +kernel
theorem dX11_layAhead_7 : decode cX11_layAhead 7 = .ok (.iload_n 1, 1) := by decide +kernel
theorem dX11_layAhead_8 : decode cX11_layAhead 8 = .ok (.ifCond .lt 136, 3) := by decide +kernel
theorem dX11_layAhead_11 : decode cX11_layAhead 11 = .ok (.aload_n 0, 1) := by decide +kernel
theorem dX11_layAhead_12 : decode cX11_layAhead 12 = .ok (.getfield 93, 3) := by decide +kernel
theorem dX11_layAhead_15 : decode cX11_layAhead 15 = .ok (.iconst 1, 1) := by decide +kernel
theorem dX11_layAhead_16 : decode cX11_layAhead 16 = .ok (.isub, 1) := by decide +kernel
theorem dX11_layAhead_17 : decode cX11_layAhead 17 = .ok (.istore_n 2, 1) := by decide +kernel
theorem dX11_layAhead_18 : decode cX11_layAhead 18 = .ok (.iload_n 2, 1) := by decide +kernel
theorem dX11_layAhead_19 : decode cX11_layAhead 19 = .ok (.ifCond .lt 119, 3) := by decide +kernel
theorem dX11_layAhead_22 : decode cX11_layAhead 22 = .ok (.iconst 0, 1) := by decide +kernel
theorem dX11_layAhead_23 : decode cX11_layAhead 23 = .ok (.istore_n 3, 1) := by decide +kernel
theorem dX11_layAhead_24 : decode cX11_layAhead 24 = .ok (.iload_n 3, 1) := by decide +kernel
theorem dX11_layAhead_25 : decode cX11_layAhead 25 = .ok (.aload_n 0, 1) := by decide +kernel
theorem dX11_layAhead_26 : decode cX11_layAhead 26 = .ok (.getfield 20, 3) := by decide +kernel
theorem dX11_layAhead_29 : decode cX11_layAhead 29 = .ok (.aload_n 0, 1) := by decide +kernel
theorem dX11_layAhead_30 : decode cX11_layAhead 30 = .ok (.getfield 32, 3) := by decide +kernel
theorem dX11_layAhead_33 : decode cX11_layAhead 33 = .ok (.iload_n 1, 1) := by decide +kernel
theorem dX11_layAhead_34 : decode cX11_layAhead 34 = .ok (.iaload, 1) := by decide +kernel
theorem dX11_layAhead_35 : decode cX11_layAhead 35 = .ok (.iaload, 1) := by decide +kernel
theorem dX11_layAhead_36 : decode cX11_layAhead 36 = .ok (.if_icmp .ge 96, 3) := by decide +kernel
theorem dX11_layAhead_39 : decode cX11_layAhead 39 = .ok (.aload_n 0, 1) := by decide +kernel
theorem dX11_layAhead_40 : decode cX11_layAhead 40 = .ok (.getfield 23, 3) := by decide +kernel
theorem dX11_layAhead_43 : decode cX11_layAhead 43 = .ok (.iconst 2, 1) := by decide +kernel
theorem dX11_layAhead_44 : decode cX11_layAhead 44 = .ok (.aload_n 0, 1) := by decide +kernel
theorem dX11_layAhead_45 : decode cX11_layAhead 45 = .ok (.getfield 32, 3) := by decide +kernel
theorem dX11_layAhead_48 : decode cX11_layAhead 48 = .ok (.iload_n 1, 1) := by decide +kernel
theorem dX11_layAhead_49 : decode cX11_layAhead 49 = .ok (.iaload, 1) := by decide +kernel
theorem dX11_layAhead_50 : decode cX11_layAhead 50 = .ok (.imul, 1) := by decide +kernel
theorem dX11_layAhead_51 : decode cX11_layAhead 51 = .ok (.iload_n 3, 1) := by decide +kernel
theorem dX11_layAhead_52 : decode cX11_layAhead 52 = .ok (.iadd, 1) := by decide +kernel
theorem dX11_layAhead_53 : decode cX11_layAhead 53 = .ok (.iaload, 1) := by decide +kernel
theorem dX11_layAhead_54 : decode cX11_layAhead 54 = .ok (.iconst 1, 1) := by decide +kernel
theorem dX11_layAhead_55 : decode cX11_layAhead 55 = .ok (.isub, 1) := by decide +kernel
theorem dX11_layAhead_56 : decode cX11_layAhead 56 = .ok (.istore 4, 2) := by decide +kernel
theorem dX11_layAhead_58 : decode cX11_layAhead 58 = .ok (.iload 4, 2) := by decide +kernel
theorem dX11_layAhead_60 : decode cX11_layAhead 60 = .ok (.ifCond .lt 66, 3) := by decide +kernel
theorem dX11_layAhead_63 : decode cX11_layAhead 63 = .ok (.ldc 119, 2) := by decide +kernel
theorem dX11_layAhead_65 : decode cX11_layAhead 65 = .ok (.istore 5, 2) := by decide +kernel
theorem dX11_layAhead_67 : decode cX11_layAhead 67 = .ok (.iload_n 2, 1) := by decide +kernel
theorem dX11_layAhead_68 : decode cX11_layAhead 68 = .ok (.iconst 1, 1) := by decide +kernel
theorem dX11_layAhead_69 : decode cX11_layAhead 69 = .ok (.iadd, 1) := by decide +kernel
theorem dX11_layAhead_70 : decode cX11_layAhead 70 = .ok (.istore 6, 2) := by decide +kernel
theorem dX11_layAhead_72 : decode cX11_layAhead 72 = .ok (.iload 6, 2) := by decide +kernel
theorem dX11_layAhead_74 : decode cX11_layAhead 74 = .ok (.aload_n 0, 1) := by decide +kernel
theorem dX11_layAhead_75 : decode cX11_layAhead 75 = .ok (.getfield 93, 3) := by decide +kernel
theorem dX11_layAhead_78 : decode cX11_layAhead 78 = .ok (.if_icmp .gt 27, 3) := by decide +kernel
theorem dX11_layAhead_81 : decode cX11_layAhead 81 = .ok (.iload 5, 2) := by decide +kernel
theorem dX11_layAhead_83 : decode cX11_layAhead 83 = .ok (.aload_n 0, 1) := by decide +kernel
theorem dX11_layAhead_84 : decode cX11_layAhead 84 = .ok (.iload_n 1, 1) := by decide +kernel
theorem dX11_layAhead_85 : decode cX11_layAhead 85 = .ok (.iload_n 3, 1) := by decide +kernel
theorem dX11_layAhead_86 : decode cX11_layAhead 86 = .ok (.iload 4, 2) := by decide +kernel
theorem dX11_layAhead_88 : decode cX11_layAhead 88 = .ok (.iload_n 2, 1) := by decide +kernel
theorem dX11_layAhead_89 : decode cX11_layAhead 89 = .ok (.iload 6, 2) := by decide +kernel
theorem dX11_layAhead_91 : decode cX11_layAhead 91 = .ok (.invokevirtual 172, 3) := by decide +kernel
theorem dX11_layAhead_94 : decode cX11_layAhead 94 = .ok (.invokestatic 120, 3) := by decide +kernel
theorem dX11_layAhead_97 : decode cX11_layAhead 97 = .ok (.istore 5, 2) := by decide +kernel
theorem dX11_layAhead_99 : decode cX11_layAhead 99 = .ok (.iinc 6 1, 3) := by decide +kernel
theorem dX11_layAhead_102 : decode cX11_layAhead 102 = .ok (.goto (-30), 3) := by decide +kernel
theorem dX11_layAhead_105 : decode cX11_layAhead 105 = .ok (.aload_n 0, 1) := by decide +kernel
theorem dX11_layAhead_106 : decode cX11_layAhead 106 = .ok (.getfield 83, 3) := by decide +kernel
theorem dX11_layAhead_109 : decode cX11_layAhead 109 = .ok (.iload_n 1, 1) := by decide +kernel
theorem dX11_layAhead_110 : decode cX11_layAhead 110 = .ok (.iload_n 3, 1) := by decide +kernel
theorem dX11_layAhead_111 : decode cX11_layAhead 111 = .ok (.iload 4, 2) := by decide +kernel
theorem dX11_layAhead_113 : decode cX11_layAhead 113 = .ok (.iload_n 2, 1) := by decide +kernel
theorem dX11_layAhead_114 : decode cX11_layAhead 114 = .ok (.invokestatic 166, 3) := by decide +kernel
theorem dX11_layAhead_117 : decode cX11_layAhead 117 = .ok (.iload 5, 2) := by decide +kernel
theorem dX11_layAhead_119 : decode cX11_layAhead 119 = .ok (.iastore, 1) := by decide +kernel
theorem dX11_layAhead_120 : decode cX11_layAhead 120 = .ok (.iinc 4 (-1), 3) := by decide +kernel
theorem dX11_layAhead_123 : decode cX11_layAhead 123 = .ok (.goto (-65), 3) := by decide +kernel
theorem dX11_layAhead_126 : decode cX11_layAhead 126 = .ok (.iinc 3 1, 3) := by decide +kernel
theorem dX11_layAhead_129 : decode cX11_layAhead 129 = .ok (.goto (-105), 3) := by decide +kernel
theorem dX11_layAhead_132 : decode cX11_layAhead 132 = .ok (.iinc 2 (-1), 3) := by decide +kernel
theorem dX11_layAhead_135 : decode cX11_layAhead 135 = .ok (.goto (-117), 3) := by decide +kernel
theorem dX11_layAhead_138 : decode cX11_layAhead 138 = .ok (.iinc 1 (-1), 3) := by decide +kernel
theorem dX11_layAhead_141 : decode cX11_layAhead 141 = .ok (.goto (-134), 3) := by decide +kernel
theorem dX11_layAhead_144 : decode cX11_layAhead 144 = .ok (.return_, 1) := by decide +kernel
theorem dX11_lay_0 : decode cX11_lay 0 = .ok (.aload_n 0, 1) := by decide +kernel
