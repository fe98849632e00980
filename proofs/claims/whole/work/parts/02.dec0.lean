theorem dX0_init_0 : decode cX0_init 0 = .ok (.aload_n 0, 1) := by decide +kernel
theorem dX0_init_1 : decode cX0_init 1 = .ok (.invokespecial 3, 3) := by decide +kernel
theorem dX0_init_4 : decode cX0_init 4 = .ok (.aload_n 0, 1) := by decide +kernel
theorem dX0_init_5 : decode cX0_init 5 = .ok (.iconst 1, 1) := by decide +kernel
theorem dX0_init_6 : decode cX0_init 6 = .ok (.putfield 9, 3) := by decide +kernel
theorem dX0_init_9 : decode cX0_init 9 = .ok (.aload_n 0, 1) := by decide +kernel
theorem dX0_init_10 : decode cX0_init 10 = .ok (.iconst 2, 1) := by decide +kernel
theorem dX0_init_11 : decode cX0_init 11 = .ok (.putfield 15, 3) := by decide +kernel
theorem dX0_init_14 : decode cX0_init 14 = .ok (.aload_n 0, 1) := by decide +kernel
theorem dX0_init_15 : decode cX0_init 15 = .ok (.iconst 3, 1) := by decide +kernel
theorem dX0_init_16 : decode cX0_init 16 = .ok (.putfield 18, 3) := by decide +kernel
theorem dX0_init_19 : decode cX0_init 19 = .ok (.return_, 1) := by decide +kernel
theorem dX0_set_0 : decode cX0_set 0 = .ok (.aload_n 0, 1) := by decide +kernel
theorem dX0_set_1 : decode cX0_set 1 = .ok (.iload_n 1, 1) := by decide +kernel
theorem dX0_set_2 : decode cX0_set 2 = .ok (.putfield 9, 3) := by decide +kernel
theorem dX0_set_5 : decode cX0_set 5 = .ok (.aload_n 0, 1) := by decide +kernel
theorem dX0_set_6 : decode cX0_set 6 = .ok (.iload_n 2, 1) := by decide +kernel
theorem dX0_set_7 : decode cX0_set 7 = .ok (.putfield 15, 3) := by decide +kernel
theorem dX0_set_10 : decode cX0_set 10 = .ok (.aload_n 0, 1) := by decide +kernel
theorem dX0_set_11 : decode cX0_set 11 = .ok (.iload_n 3, 1) := by decide +kernel
theorem dX0_set_12 : decode cX0_set 12 = .ok (.putfield 18, 3) := by decide +kernel
theorem dX0_set_15 : decode cX0_set 15 = .ok (.return_, 1) := by decide +kernel
theorem dX0_begin_0 : decode cX0_begin 0 = .ok (.iconst 0, 1) := by decide +kernel
theorem dX0_begin_1 : decode cX0_begin 1 = .ok (.istore_n 2, 1) := by decide +kernel
theorem dX0_begin_2 : decode cX0_begin 2 = .ok (.iconst 0, 1) := by decide +kernel
theorem dX0_begin_3 : decode cX0_begin 3 = .ok (.istore_n 3, 1) := by decide +kernel
theorem dX0_begin_4 : decode cX0_begin 4 = .ok (.iload_n 3, 1) := by decide +kernel
theorem dX0_begin_5 : decode cX0_begin 5 = .ok (.aload_n 1, 1) := by decide +kernel
theorem dX0_begin_6 : decode cX0_begin 6 = .ok (.invokevirtual 21, 3) := by decide +kernel
theorem dX0_begin_9 : decode cX0_begin 9 = .ok (.if_icmp .ge 43, 3) := by decide +kernel
theorem dX0_begin_12 : decode cX0_begin 12 = .ok (.aload_n 0, 1) := by decide +kernel
theorem dX0_begin_13 : decode cX0_begin 13 = .ok (.aload_n 1, 1) := by decide +kernel
theorem dX0_begin_14 : decode cX0_begin 14 = .ok (.iload_n 3, 1) := by decide +kernel
theorem dX0_begin_15 : decode cX0_begin 15 = .ok (.invokevirtual 27, 3) := by decide +kernel
theorem dX0_begin_18 : decode cX0_begin 18 = .ok (.ifCond .eq 9, 3) := by decide +kernel
theorem dX0_begin_21 : decode cX0_begin 21 = .ok (.iload_n 2, 1) := by decide +kernel
theorem dX0_begin_22 : decode cX0_begin 22 = .ok (.iconst 1, 1) := by decide +kernel
theorem dX0_begin_23 : decode cX0_begin 23 = .ok (.iadd, 1) := by decide +kernel
theorem dX0_begin_24 : decode cX0_begin 24 = .ok (.goto 4, 3) := by decide +kernel
theorem dX0_begin_27 : decode cX0_begin 27 = .ok (.iconst 0, 1) := by decide +kernel
theorem dX0_begin_28 : decode cX0_begin 28 = .ok (.istore_n 2, 1) := by decide +kernel
theorem dX0_begin_29 : decode cX0_begin 29 = .ok (.iload_n 2, 1) := by decide +kernel
theorem dX0_begin_30 : decode cX0_begin 30 = .ok (.aload_n 0, 1) := by decide +kernel
theorem dX0_begin_31 : decode cX0_begin 31 = .ok (.getfield 15, 3) := by decide +kernel
theorem dX0_begin_34 : decode cX0_begin 34 = .ok (.if_icmp .ne 12, 3) := by decide +kernel
theorem dX0_begin_37 : decode cX0_begin 37 = .ok (.iload_n 3, 1) := by decide +kernel
theorem dX0_begin_38 : decode cX0_begin 38 = .ok (.iconst 1, 1) := by decide +kernel
theorem dX0_begin_39 : decode cX0_begin 39 = .ok (.iadd, 1) := by decide +kernel
theorem dX0_begin_40 : decode cX0_begin 40 = .ok (.aload_n 0, 1) := by decide +kernel
theorem dX0_begin_41 : decode cX0_begin 41 = .ok (.getfield 15, 3) := by decide +kernel
theorem dX0_begin_44 : decode cX0_begin 44 = .ok (.isub, 1) := by decide +kernel
theorem dX0_begin_45 : decode cX0_begin 45 = .ok (.ireturn, 1) := by decide +kernel
theorem dX0_begin_46 : decode cX0_begin 46 = .ok (.iinc 3 1, 3) := by decide +kernel
theorem dX0_begin_49 : decode cX0_begin 49 = .ok (.goto (-45), 3) := by decide +kernel
theorem dX0_begin_52 : decode cX0_begin 52 = .ok (.iconst (-1), 1) := by decide +kernel
theorem dX0_begin_53 : decode cX0_begin 53 = .ok (.ireturn, 1) := by decide +kernel
theorem dX0_endBehind_0 : decode cX0_endBehind 0 = .ok (.iconst 0, 1) := by decide +kernel
theorem dX0_endBehind_1 : decode cX0_endBehind 1 = .ok (.istore_n 3, 1) := by decide +kernel
theorem dX0_endBehind_2 : decode cX0_endBehind 2 = .ok (.iload_n 2, 1) := by decide +kernel
theorem dX0_endBehind_3 : decode cX0_endBehind 3 = .ok (.istore 4, 2) := by decide +kernel
theorem dX0_endBehind_5 : decode cX0_endBehind 5 = .ok (.iload 4, 2) := by decide +kernel
theorem dX0_endBehind_7 : decode cX0_endBehind 7 = .ok (.aload_n 1, 1) := by decide +kernel
theorem dX0_endBehind_8 : decode cX0_endBehind 8 = .ok (.invokevirtual 21, 3) := by decide +kernel
theorem dX0_endBehind_11 : decode cX0_endBehind 11 = .ok (.if_icmp .ge 45, 3) := by decide +kernel
theorem dX0_endBehind_14 : decode cX0_endBehind 14 = .ok (.aload_n 0, 1) := by decide +kernel
theorem dX0_endBehind_15 : decode cX0_endBehind 15 = .ok (.aload_n 1, 1) := by decide +kernel
theorem dX0_endBehind_16 : decode cX0_endBehind 16 = .ok (.iload 4, 2) := by decide +kernel
theorem dX0_endBehind_18 : decode cX0_endBehind 18 = .ok (.invokevirtual 27, 3) := by decide +kernel
theorem dX0_endBehind_21 : decode cX0_endBehind 21 = .ok (.ifCond .eq 7, 3) := by decide +kernel
theorem dX0_endBehind_24 : decode cX0_endBehind 24 = .ok (.iconst 0, 1) := by decide +kernel
theorem dX0_endBehind_25 : decode cX0_endBehind 25 = .ok (.goto 6, 3) := by decide +kernel
theorem dX0_endBehind_28 : decode cX0_endBehind 28 = .ok (.iload_n 3, 1) := by decide +kernel
theorem dX0_endBehind_29 : decode cX0_endBehind 29 = .ok (.iconst 1, 1) := by decide +kernel
theorem dX0_endBehind_30 : decode cX0_endBehind 30 = .ok (.iadd, 1) := by decide +kernel
theorem dX0_endBehind_31 : decode cX0_endBehind 31 = .ok (.istore_n 3, 1) := by decide +kernel
theorem dX0_endBehind_32 : decode cX0_endBehind 32 = .ok (.iload_n 3, 1) := by decide +kernel
theorem dX0_endBehind_33 : decode cX0_endBehind 33 = .ok (.aload_n 0, 1) := by decide +kernel
theorem dX0_endBehind_34 : decode cX0_endBehind 34 = .ok (.getfield 18, 3) := by decide +kernel
theorem dX0_endBehind_37 : decode cX0_endBehind 37 = .ok (.if_icmp .ne 13, 3) := by decide +kernel
theorem dX0_endBehind_40 : decode cX0_endBehind 40 = .ok (.iload 4, 2) := by decide +kernel
theorem dX0_endBehind_42 : decode cX0_endBehind 42 = .ok (.iconst 1, 1) := by decide +kernel
theorem dX0_endBehind_43 : decode cX0_endBehind 43 = .ok (.iadd, 1) := by decide +kernel
theorem dX0_endBehind_44 : decode cX0_endBehind 44 = .ok (.aload_n 0, 1) := by decide +kernel
theorem dX0_endBehind_45 : decode cX0_endBehind 45 = .ok (.getfield 18, 3) := by decide +kernel
theorem dX0_endBehind_48 : decode cX0_endBehind 48 = .ok (.isub, 1) := by decide +kernel
theorem dX0_endBehind_49 : decode cX0_endBehind 49 = .ok (.ireturn, 1) := by decide +kernel
theorem dX0_endBehind_50 : decode cX0_endBehind 50 = .ok (.iinc 4 1, 3) := by decide +kernel
theorem dX0_endBehind_53 : decode cX0_endBehind 53 = .ok (.goto (-48), 3) := by decide +kernel
theorem dX0_endBehind_56 : decode cX0_endBehind 56 = .ok (.aload_n 1, 1) := by decide +kernel
theorem dX0_endBehind_57 : decode cX0_endBehind 57 = .ok (.invokevirtual 21, 3) := by decide +kernel
theorem dX0_endBehind_60 : decode cX0_endBehind 60 = .ok (.ireturn, 1) := by decide +kernel
theorem dX0_isLoud_0 : decode cX0_isLoud 0 = .ok (.aload_n 1, 1) := by decide +kernel
theorem dX0_isLoud_1 : decode cX0_isLoud 1 = .ok (.iload_n 2, 1) := by decide +kernel
theorem dX0_isLoud_2 : decode cX0_isLoud 2 = .ok (.invokevirtual 31, 3) := by decide +kernel
theorem dX0_isLoud_5 : decode cX0_isLoud 5 = .ok (.iconst (-1), 1) := by decide +kernel
theorem dX0_isLoud_6 : decode cX0_isLoud 6 = .ok (.if_icmp .eq 19, 3) := by decide +kernel
theorem dX0_isLoud_9 : decode cX0_isLoud 9 = .ok (.aload_n 1, 1) := by decide +kernel
theorem dX0_isLoud_10 : decode cX0_isLoud 10 = .ok (.iload_n 2, 1) := by decide +kernel
theorem dX0_isLoud_11 : decode cX0_isLoud 11 = .ok (.invokevirtual 31, 3) := by decide +kernel
theorem dX0_isLoud_14 : decode cX0_isLoud 14 = .ok (.aload_n 0, 1) := by decide +kernel
theorem dX0_isLoud_15 : decode cX0_isLoud 15 = .ok (.getfield 9, 3) := by decide +kernel
theorem dX0_isLoud_18 : decode cX0_isLoud 18 = .ok (.if_icmp .lt 7, 3) := by decide +kernel
theorem dX0_isLoud_21 : decode cX0_isLoud 21 = .ok (.iconst 1, 1) := by decide +kernel
theorem dX0_isLoud_22 : decode cX0_isLoud 22 = .ok (.goto 4, 3) := by decide +kernel
theorem dX0_isLoud_25 : decode cX0_isLoud 25 = .ok (.iconst 0, 1) := by decide +kernel
theorem dX0_isLoud_26 : decode cX0_isLoud 26 = .ok (.ireturn, 1) := by decide +kernel
theorem dX1_init_0 : decode cX1_init 0 = .ok (.aload_n 0, 1) := by decide +kernel
theorem dX1_init_1 : decode cX1_init 1 = .ok (.invokespecial 3, 3) := by decide +kernel
theorem dX1_init_4 : decode cX1_init 4 = .ok (.aload_n 0, 1) := by decide +kernel
theorem dX1_init_5 : decode cX1_init 5 = .ok (.bipush 41, 2) := by decide +kernel
theorem dX1_init_7 : decode cX1_init 7 = .ok (.newarray .int, 2) := by decide +kernel
theorem dX1_init_9 : decode cX1_init 9 = .ok (.putfield 9, 3) := by decide +kernel
theorem dX1_init_12 : decode cX1_init 12 = .ok (.return_, 1) := by decide +kernel
theorem dX1_fewest_0 : decode cX1_fewest 0 = .ok (.aload_n 2, 1) := by decide +kernel
theorem dX1_fewest_1 : decode cX1_fewest 1 = .ok (.invokevirtual 15, 3) := by decide +kernel
theorem dX1_fewest_4 : decode cX1_fewest 4 = .ok (.bipush 40, 2) := by decide +kernel
theorem dX1_fewest_6 : decode cX1_fewest 6 = .ok (.invokestatic 21, 3) := by decide +kernel
theorem dX1_fewest_9 : decode cX1_fewest 9 = .ok (.istore_n 3, 1) := by decide +kernel
theorem dX1_fewest_10 : decode cX1_fewest 10 = .ok (.iconst 0, 1) := by decide +kernel
theorem dX1_fewest_11 : decode cX1_fewest 11 = .ok (.istore 4, 2) := by decide +kernel
theorem dX1_fewest_13 : decode cX1_fewest 13 = .ok (.iload 4, 2) := by decide +kernel
theorem dX1_fewest_15 : decode cX1_fewest 15 = .ok (.iload_n 3, 1) := by decide +kernel
theorem dX1_fewest_16 : decode cX1_fewest 16 = .ok (.if_icmp .gt 18, 3) := by decide +kernel
theorem dX1_fewest_19 : decode cX1_fewest 19 = .ok (.aload_n 0, 1) := by decide +kernel
theorem dX1_fewest_20 : decode cX1_fewest 20 = .ok (.getfield 9, 3) := by decide +kernel
theorem dX1_fewest_23 : decode cX1_fewest 23 = .ok (.iload 4, 2) := by decide +kernel
theorem dX1_fewest_25 : decode cX1_fewest 25 = .ok (.iload 4, 2) := by decide +kernel
theorem dX1_fewest_27 : decode cX1_fewest 27 = .ok (.iastore, 1) := by decide +kernel
theorem dX1_fewest_28 : decode cX1_fewest 28 = .ok (.iinc 4 1, 3) := by decide +kernel
theorem dX1_fewest_31 : decode cX1_fewest 31 = .ok (.goto (-18), 3) := by decide +kernel
theorem dX1_fewest_34 : decode cX1_fewest 34 = .ok (.iconst 1, 1) := by decide +kernel
theorem dX1_fewest_35 : decode cX1_fewest 35 = .ok (.istore 4, 2) := by decide +kernel
theorem dX1_fewest_37 : decode cX1_fewest 37 = .ok (.iload 4, 2) := by decide +kernel
theorem dX1_fewest_39 : decode cX1_fewest 39 = .ok (.aload_n 1, 1) := by decide +kernel
theorem dX1_fewest_40 : decode cX1_fewest 40 = .ok (.invokevirtual 15, 3) := by decide +kernel
theorem dX1_fewest_43 : decode cX1_fewest 43 = .ok (.if_icmp .gt 112, 3) := by decide +kernel
theorem dX1_fewest_46 : decode cX1_fewest 46 = .ok (.aload_n 0, 1) := by decide +kernel
theorem dX1_fewest_47 : decode cX1_fewest 47 = .ok (.getfield 9, 3) := by decide +kernel
theorem dX1_fewest_50 : decode cX1_fewest 50 = .ok (.iconst 0, 1) := by decide +kernel
theorem dX1_fewest_51 : decode cX1_fewest 51 = .ok (.iaload, 1) := by decide +kernel
theorem dX1_fewest_52 : decode cX1_fewest 52 = .ok (.istore 5, 2) := by decide +kernel
theorem dX1_fewest_54 : decode cX1_fewest 54 = .ok (.aload_n 0, 1) := by decide +kernel
theorem dX1_fewest_55 : decode cX1_fewest 55 = .ok (.getfield 9, 3) := by decide +kernel
theorem dX1_fewest_58 : decode cX1_fewest 58 = .ok (.iconst 0, 1) := by decide +kernel
theorem dX1_fewest_59 : decode cX1_fewest 59 = .ok (.iload 4, 2) := by decide +kernel
theorem dX1_fewest_61 : decode cX1_fewest 61 = .ok (.iastore, 1) := by decide +kernel
theorem dX1_fewest_62 : decode cX1_fewest 62 = .ok (.iconst 1, 1) := by decide +kernel
theorem dX1_fewest_63 : decode cX1_fewest 63 = .ok (.istore 6, 2) := by decide +kernel
theorem dX1_fewest_65 : decode cX1_fewest 65 = .ok (.iload 6, 2) := by decide +kernel
theorem dX1_fewest_67 : decode cX1_fewest 67 = .ok (.iload_n 3, 1) := by decide +kernel
theorem dX1_fewest_68 : decode cX1_fewest 68 = .ok (.if_icmp .gt 81, 3) := by decide +kernel
theorem dX1_fewest_71 : decode cX1_fewest 71 = .ok (.aload_n 1, 1) := by decide +kernel
theorem dX1_fewest_72 : decode cX1_fewest 72 = .ok (.iload 4, 2) := by decide +kernel
theorem dX1_fewest_74 : decode cX1_fewest 74 = .ok (.iconst 1, 1) := by decide +kernel
theorem dX1_fewest_75 : decode cX1_fewest 75 = .ok (.isub, 1) := by decide +kernel
theorem dX1_fewest_76 : decode cX1_fewest 76 = .ok (.invokevirtual 27, 3) := by decide +kernel
theorem dX1_fewest_79 : decode cX1_fewest 79 = .ok (.aload_n 2, 1) := by decide +kernel
theorem dX1_fewest_80 : decode cX1_fewest 80 = .ok (.iload 6, 2) := by decide +kernel
theorem dX1_fewest_82 : decode cX1_fewest 82 = .ok (.iconst 1, 1) := by decide +kernel
theorem dX1_fewest_83 : decode cX1_fewest 83 = .ok (.isub, 1) := by decide +kernel
theorem dX1_fewest_84 : decode cX1_fewest 84 = .ok (.invokevirtual 27, 3) := by decide +kernel
theorem dX1_fewest_87 : decode cX1_fewest 87 = .ok (.if_icmp .ne 8, 3) := by decide +kernel
theorem dX1_fewest_90 : decode cX1_fewest 90 = .ok (.iload 5, 2) := by decide +kernel
theorem dX1_fewest_92 : decode cX1_fewest 92 = .ok (.goto 7, 3) := by decide +kernel
theorem dX1_fewest_95 : decode cX1_fewest 95 = .ok (.iload 5, 2) := by decide +kernel
theorem dX1_fewest_97 : decode cX1_fewest 97 = .ok (.iconst 1, 1) := by decide +kernel
theorem dX1_fewest_98 : decode cX1_fewest 98 = .ok (.iadd, 1) := by decide +kernel
theorem dX1_fewest_99 : decode cX1_fewest 99 = .ok (.istore 7, 2) := by decide +kernel
theorem dX1_fewest_101 : decode cX1_fewest 101 = .ok (.aload_n 0, 1) := by decide +kernel
theorem dX1_fewest_102 : decode cX1_fewest 102 = .ok (.getfield 9, 3) := by decide +kernel
theorem dX1_fewest_105 : decode cX1_fewest 105 = .ok (.iload 6, 2) := by decide +kernel
theorem dX1_fewest_107 : decode cX1_fewest 107 = .ok (.iaload, 1) := by decide +kernel
theorem dX1_fewest_108 : decode cX1_fewest 108 = .ok (.istore 5, 2) := by decide +kernel
theorem dX1_fewest_110 : decode cX1_fewest 110 = .ok (.aload_n 0, 1) := by decide +kernel
theorem dX1_fewest_111 : decode cX1_fewest 111 = .ok (.getfield 9, 3) := by decide +kernel
theorem dX1_fewest_114 : decode cX1_fewest 114 = .ok (.iload 6, 2) := by decide +kernel
theorem dX1_fewest_116 : decode cX1_fewest 116 = .ok (.iload 7, 2) := by decide +kernel
theorem dX1_fewest_118 : decode cX1_fewest 118 = .ok (.iconst 1, 1) := by decide +kernel
theorem dX1_fewest_119 : decode cX1_fewest 119 = .ok (.aload_n 0, 1) := by decide +kernel
theorem dX1_fewest_120 : decode cX1_fewest 120 = .ok (.getfield 9, 3) := by decide +kernel
theorem dX1_fewest_123 : decode cX1_fewest 123 = .ok (.iload 6, 2) := by decide +kernel
theorem dX1_fewest_125 : decode cX1_fewest 125 = .ok (.iaload, 1) := by decide +kernel
theorem dX1_fewest_126 : decode cX1_fewest 126 = .ok (.aload_n 0, 1) := by decide +kernel
theorem dX1_fewest_127 : decode cX1_fewest 127 = .ok (.getfield 9, 3) := by decide +kernel
theorem dX1_fewest_130 : decode cX1_fewest 130 = .ok (.iload 6, 2) := by decide +kernel
theorem dX1_fewest_132 : decode cX1_fewest 132 = .ok (.iconst 1, 1) := by decide +kernel
theorem dX1_fewest_133 : decode cX1_fewest 133 = .ok (.isub, 1) := by decide +kernel
theorem dX1_fewest_134 : decode cX1_fewest 134 = .ok (.iaload, 1) := by decide +kernel
theorem dX1_fewest_135 : decode cX1_fewest 135 = .ok (.invokestatic 21, 3) := by decide +kernel
theorem dX1_fewest_138 : decode cX1_fewest 138 = .ok (.iadd, 1) := by decide +kernel
theorem dX1_fewest_139 : decode cX1_fewest 139 = .ok (.invokestatic 21, 3) := by decide +kernel
theorem dX1_fewest_142 : decode cX1_fewest 142 = .ok (.iastore, 1) := by decide +kernel
theorem dX1_fewest_143 : decode cX1_fewest 143 = .ok (.iinc 6 1, 3) := by decide +kernel
theorem dX1_fewest_146 : decode cX1_fewest 146 = .ok (.goto (-81), 3) := by decide +kernel
theorem dX1_fewest_149 : decode cX1_fewest 149 = .ok (.iinc 4 1, 3) := by decide +kernel
theorem dX1_fewest_152 : decode cX1_fewest 152 = .ok (.goto (-115), 3) := by decide +kernel
theorem dX1_fewest_155 : decode cX1_fewest 155 = .ok (.aload_n 0, 1) := by decide +kernel
theorem dX1_fewest_156 : decode cX1_fewest 156 = .ok (.getfield 9, 3) := by decide +kernel
theorem dX1_fewest_159 : decode cX1_fewest 159 = .ok (.iload_n 3, 1) := by decide +kernel
theorem dX1_fewest_160 : decode cX1_fewest 160 = .ok (.iaload, 1) := by decide +kernel
theorem dX1_fewest_161 : decode cX1_fewest 161 = .ok (.ireturn, 1) := by decide +kernel
theorem dX2_init_0 : decode cX2_init 0 = .ok (.aload_n 0, 1) := by decide +kernel
theorem dX2_init_1 : decode cX2_init 1 = .ok (.invokespecial 3, 3) := by decide +kernel
theorem dX2_init_4 : decode cX2_init 4 = .ok (.aload_n 0, 1) := by decide +kernel
theorem dX2_init_5 : decode cX2_init 5 = .ok (.bipush 40, 2) := by decide +kernel
theorem dX2_init_7 : decode cX2_init 7 = .ok (.newarray .int, 2) := by decide +kernel
theorem dX2_init_9 : decode cX2_init 9 = .ok (.putfield 9, 3) := by decide +kernel
theorem dX2_init_12 : decode cX2_init 12 = .ok (.aload_n 0, 1) := by decide +kernel
theorem dX2_init_13 : decode cX2_init 13 = .ok (.bipush 6, 2) := by decide +kernel
theorem dX2_init_15 : decode cX2_init 15 = .ok (.bipush 8, 2) := by decide +kernel
theorem dX2_init_17 : decode cX2_init 17 = .ok (.multianewarray 15 2, 4) := by decide +kernel
theorem dX2_init_21 : decode cX2_init 21 = .ok (.putfield 17, 3) := by decide +kernel
theorem dX2_init_24 : decode cX2_init 24 = .ok (.aload_n 0, 1) := by decide +kernel
theorem dX2_init_25 : decode cX2_init 25 = .ok (.iconst 0, 1) := by decide +kernel
theorem dX2_init_26 : decode cX2_init 26 = .ok (.putfield 20, 3) := by decide +kernel
theorem dX2_init_29 : decode cX2_init 29 = .ok (.aload_n 0, 1) := by decide +kernel
theorem dX2_init_30 : decode cX2_init 30 = .ok (.iconst 1, 1) := by decide +kernel
theorem dX2_init_31 : decode cX2_init 31 = .ok (.putfield 24, 3) := by decide +kernel
theorem dX2_init_34 : decode cX2_init 34 = .ok (.iconst 0, 1) := by decide +kernel
theorem dX2_init_35 : decode cX2_init 35 = .ok (.istore_n 1, 1) := by decide +kernel
theorem dX2_init_36 : decode cX2_init 36 = .ok (.iload_n 1, 1) := by decide +kernel
theorem dX2_init_37 : decode cX2_init 37 = .ok (.bipush 6, 2) := by decide +kernel
theorem dX2_init_39 : decode cX2_init 39 = .ok (.if_icmp .ge 20, 3) := by decide +kernel
theorem dX2_init_42 : decode cX2_init 42 = .ok (.aload_n 0, 1) := by decide +kernel
theorem dX2_init_43 : decode cX2_init 43 = .ok (.getfield 17, 3) := by decide +kernel
theorem dX2_init_46 : decode cX2_init 46 = .ok (.iload_n 1, 1) := by decide +kernel
theorem dX2_init_47 : decode cX2_init 47 = .ok (.aaload, 1) := by decide +kernel
theorem dX2_init_48 : decode cX2_init 48 = .ok (.bipush 25, 2) := by decide +kernel
theorem dX2_init_50 : decode cX2_init 50 = .ok (.invokestatic 27, 3) := by decide +kernel
theorem dX2_init_53 : decode cX2_init 53 = .ok (.iinc 1 1, 3) := by decide +kernel
theorem dX2_init_56 : decode cX2_init 56 = .ok (.goto (-20), 3) := by decide +kernel
theorem dX2_init_59 : decode cX2_init 59 = .ok (.return_, 1) := by decide +kernel
theorem dX2_frames_0 : decode cX2_frames 0 = .ok (.aload_n 0, 1) := by decide +kernel
theorem dX2_frames_1 : decode cX2_frames 1 = .ok (.getfield 20, 3) := by decide +kernel
theorem dX2_frames_4 : decode cX2_frames 4 = .ok (.ireturn, 1) := by decide +kernel
theorem dX2_markOf_0 : decode cX2_markOf 0 = .ok (.aload_n 0, 1) := by decide +kernel
theorem dX2_markOf_1 : decode cX2_markOf 1 = .ok (.getfield 9, 3) := by decide +kernel
theorem dX2_markOf_4 : decode cX2_markOf 4 = .ok (.iload_n 1, 1) := by decide +kernel
theorem dX2_markOf_5 : decode cX2_markOf 5 = .ok (.iaload, 1) := by decide +kernel
theorem dX2_markOf_6 : decode cX2_markOf 6 = .ok (.ireturn, 1) := by decide +kernel
theorem dX2_add_0 : decode cX2_add 0 = .ok (.aload_n 0, 1) := by decide +kernel
theorem dX2_add_1 : decode cX2_add 1 = .ok (.getfield 20, 3) := by decide +kernel
theorem dX2_add_4 : decode cX2_add 4 = .ok (.bipush 40, 2) := by decide +kernel
theorem dX2_add_6 : decode cX2_add 6 = .ok (.if_icmp .ge 23, 3) := by decide +kernel
theorem dX2_add_9 : decode cX2_add 9 = .ok (.aload_n 0, 1) := by decide +kernel
theorem dX2_add_10 : decode cX2_add 10 = .ok (.getfield 9, 3) := by decide +kernel
theorem dX2_add_13 : decode cX2_add 13 = .ok (.aload_n 0, 1) := by decide +kernel
theorem dX2_add_14 : decode cX2_add 14 = .ok (.getfield 20, 3) := by decide +kernel
theorem dX2_add_17 : decode cX2_add 17 = .ok (.iload_n 1, 1) := by decide +kernel
theorem dX2_add_18 : decode cX2_add 18 = .ok (.iastore, 1) := by decide +kernel
theorem dX2_add_19 : decode cX2_add 19 = .ok (.aload_n 0, 1) := by decide +kernel
theorem dX2_add_20 : decode cX2_add 20 = .ok (.dup, 1) := by decide +kernel
theorem dX2_add_21 : decode cX2_add 21 = .ok (.getfield 20, 3) := by decide +kernel
theorem dX2_add_24 : decode cX2_add 24 = .ok (.iconst 1, 1) := by decide +kernel
theorem dX2_add_25 : decode cX2_add 25 = .ok (.iadd, 1) := by decide +kernel
theorem dX2_add_26 : decode cX2_add 26 = .ok (.putfield 20, 3) := by decide +kernel
theorem dX2_add_29 : decode cX2_add 29 = .ok (.return_, 1) := by decide +kernel
theorem dX2_clear_0 : decode cX2_clear 0 = .ok (.aload_n 0, 1) := by decide +kernel
theorem dX2_clear_1 : decode cX2_clear 1 = .ok (.iconst 0, 1) := by decide +kernel
theorem dX2_clear_2 : decode cX2_clear 2 = .ok (.putfield 20, 3) := by decide +kernel
theorem dX2_clear_5 : decode cX2_clear 5 = .ok (.return_, 1) := by decide +kernel
theorem dX2_costOf_0 : decode cX2_costOf 0 = .ok (.aload_n 0, 1) := by decide +kernel
theorem dX2_costOf_1 : decode cX2_costOf 1 = .ok (.getfield 17, 3) := by decide +kernel
theorem dX2_costOf_4 : decode cX2_costOf 4 = .ok (.iload_n 1, 1) := by decide +kernel
theorem dX2_costOf_5 : decode cX2_costOf 5 = .ok (.aaload, 1) := by decide +kernel
theorem dX2_costOf_6 : decode cX2_costOf 6 = .ok (.iload_n 2, 1) := by decide +kernel
theorem dX2_costOf_7 : decode cX2_costOf 7 = .ok (.iaload, 1) := by decide +kernel
theorem dX2_costOf_8 : decode cX2_costOf 8 = .ok (.ireturn, 1) := by decide +kernel
theorem dX2_setCost_0 : decode cX2_setCost 0 = .ok (.aload_n 0, 1) := by decide +kernel
theorem dX2_setCost_1 : decode cX2_setCost 1 = .ok (.getfield 17, 3) := by decide +kernel
theorem dX2_setCost_4 : decode cX2_setCost 4 = .ok (.iload_n 1, 1) := by decide +kernel
theorem dX2_setCost_5 : decode cX2_setCost 5 = .ok (.aaload, 1) := by decide +kernel
theorem dX2_setCost_6 : decode cX2_setCost 6 = .ok (.iload_n 2, 1) := by decide +kernel
theorem dX2_setCost_7 : decode cX2_setCost 7 = .ok (.iload_n 3, 1) := by decide +kernel
theorem dX2_setCost_8 : decode cX2_setCost 8 = .ok (.iastore, 1) := by decide +kernel
theorem dX2_setCost_9 : decode cX2_setCost 9 = .ok (.return_, 1) := by decide +kernel
theorem dX2_stayCost_0 : decode cX2_stayCost 0 = .ok (.aload_n 0, 1) := by decide +kernel
theorem dX2_stayCost_1 : decode cX2_stayCost 1 = .ok (.getfield 24, 3) := by decide +kernel
theorem dX2_stayCost_4 : decode cX2_stayCost 4 = .ok (.ireturn, 1) := by decide +kernel
theorem dX2_setStayCost_0 : decode cX2_setStayCost 0 = .ok (.aload_n 0, 1) := by decide +kernel
theorem dX2_setStayCost_1 : decode cX2_setStayCost 1 = .ok (.iload_n 1, 1) := by decide +kernel
theorem dX2_setStayCost_2 : decode cX2_setStayCost 2 = .ok (.putfield 24, 3) := by decide +kernel
theorem dX2_setStayCost_5 : decode cX2_setStayCost 5 = .ok (.return_, 1) := by decide +kernel
theorem dX2_costAt_0 : decode cX2_costAt 0 = .ok (.aload_n 0, 1) := by decide +kernel
theorem dX2_costAt_1 : decode cX2_costAt 1 = .ok (.getfield 9, 3) := by decide +kernel
theorem dX2_costAt_4 : decode cX2_costAt 4 = .ok (.iload_n 2, 1) := by decide +kernel
theorem dX2_costAt_5 : decode cX2_costAt 5 = .ok (.iaload, 1) := by decide +kernel
theorem dX2_costAt_6 : decode cX2_costAt 6 = .ok (.iconst (-1), 1) := by decide +kernel
theorem dX2_costAt_7 : decode cX2_costAt 7 = .ok (.if_icmp .ne 8, 3) := by decide +kernel
theorem dX2_costAt_10 : decode cX2_costAt 10 = .ok (.bipush 10, 2) := by decide +kernel
theorem dX2_costAt_12 : decode cX2_costAt 12 = .ok (.goto 16, 3) := by decide +kernel
theorem dX2_costAt_15 : decode cX2_costAt 15 = .ok (.aload_n 0, 1) := by decide +kernel
theorem dX2_costAt_16 : decode cX2_costAt 16 = .ok (.getfield 17, 3) := by decide +kernel
theorem dX2_costAt_19 : decode cX2_costAt 19 = .ok (.iload_n 1, 1) := by decide +kernel
theorem dX2_costAt_20 : decode cX2_costAt 20 = .ok (.aaload, 1) := by decide +kernel
theorem dX2_costAt_21 : decode cX2_costAt 21 = .ok (.aload_n 0, 1) := by decide +kernel
theorem dX2_costAt_22 : decode cX2_costAt 22 = .ok (.getfield 9, 3) := by decide +kernel
theorem dX2_costAt_25 : decode cX2_costAt 25 = .ok (.iload_n 2, 1) := by decide +kernel
theorem dX2_costAt_26 : decode cX2_costAt 26 = .ok (.iaload, 1) := by decide +kernel
theorem dX2_costAt_27 : decode cX2_costAt 27 = .ok (.iaload, 1) := by decide +kernel
theorem dX2_costAt_28 : decode cX2_costAt 28 = .ok (.ireturn, 1) := by decide +kernel
theorem dX3_init_0 : decode cX3_init 0 = .ok (.aload_n 0, 1) := by decide +kernel
theorem dX3_init_1 : decode cX3_init 1 = .ok (.invokespecial 5, 3) := by decide +kernel
theorem dX3_init_4 : decode cX3_init 4 = .ok (.aload_n 0, 1) := by decide +kernel
theorem dX3_init_5 : decode cX3_init 5 = .ok (.bipush 96, 2) := by decide +kernel
theorem dX3_init_7 : decode cX3_init 7 = .ok (.newarray .int, 2) := by decide +kernel
theorem dX3_init_9 : decode cX3_init 9 = .ok (.putfield 11, 3) := by decide +kernel
theorem dX3_init_12 : decode cX3_init 12 = .ok (.aload_n 0, 1) := by decide +kernel
theorem dX3_init_13 : decode cX3_init 13 = .ok (.bipush 12, 2) := by decide +kernel
theorem dX3_init_15 : decode cX3_init 15 = .ok (.newarray .int, 2) := by decide +kernel
theorem dX3_init_17 : decode cX3_init 17 = .ok (.putfield 15, 3) := by decide +kernel
theorem dX3_init_20 : decode cX3_init 20 = .ok (.aload_n 0, 1) := by decide +kernel
theorem dX3_init_21 : decode cX3_init 21 = .ok (.bipush 41, 2) := by decide +kernel
theorem dX3_init_23 : decode cX3_init 23 = .ok (.bipush 96, 2) := by decide +kernel
theorem dX3_init_25 : decode cX3_init 25 = .ok (.multianewarray 18 2, 4) := by decide +kernel
theorem dX3_init_29 : decode cX3_init 29 = .ok (.putfield 20, 3) := by decide +kernel
theorem dX3_init_32 : decode cX3_init 32 = .ok (.aload_n 0, 1) := by decide +kernel
theorem dX3_init_33 : decode cX3_init 33 = .ok (.bipush 40, 2) := by decide +kernel
theorem dX3_init_35 : decode cX3_init 35 = .ok (.newarray .int, 2) := by decide +kernel
theorem dX3_init_37 : decode cX3_init 37 = .ok (.putfield 23, 3) := by decide +kernel
theorem dX3_init_40 : decode cX3_init 40 = .ok (.aload_n 0, 1) := by decide +kernel
theorem dX3_init_41 : decode cX3_init 41 = .ok (.iconst 0, 1) := by decide +kernel
theorem dX3_init_42 : decode cX3_init 42 = .ok (.putfield 26, 3) := by decide +kernel
theorem dX3_init_45 : decode cX3_init 45 = .ok (.aload_n 0, 1) := by decide +kernel
theorem dX3_init_46 : decode cX3_init 46 = .ok (.iconst 0, 1) := by decide +kernel
theorem dX3_init_47 : decode cX3_init 47 = .ok (.putfield 30, 3) := by decide +kernel
theorem dX3_init_50 : decode cX3_init 50 = .ok (.return_, 1) := by decide +kernel
theorem dX3_stands_0 : decode cX3_stands 0 = .ok (.aload_n 0, 1) := by decide +kernel
theorem dX3_stands_1 : decode cX3_stands 1 = .ok (.getfield 30, 3) := by decide +kernel
theorem dX3_stands_4 : decode cX3_stands 4 = .ok (.ireturn, 1) := by decide +kernel
theorem dX3_end_0 : decode cX3_end 0 = .ok (.aload_n 0, 1) := by decide +kernel
theorem dX3_end_1 : decode cX3_end 1 = .ok (.iconst 0, 1) := by decide +kernel
theorem dX3_end_2 : decode cX3_end 2 = .ok (.putfield 30, 3) := by decide +kernel
theorem dX3_end_5 : decode cX3_end 5 = .ok (.return_, 1) := by decide +kernel
theorem dX3_soundAt_0 : decode cX3_soundAt 0 = .ok (.aload_n 0, 1) := by decide +kernel
theorem dX3_soundAt_1 : decode cX3_soundAt 1 = .ok (.getfield 11, 3) := by decide +kernel
theorem dX3_soundAt_4 : decode cX3_soundAt 4 = .ok (.aload_n 0, 1) := by decide +kernel
theorem dX3_soundAt_5 : decode cX3_soundAt 5 = .ok (.getfield 23, 3) := by decide +kernel
theorem dX3_soundAt_8 : decode cX3_soundAt 8 = .ok (.iload_n 1, 1) := by decide +kernel
theorem dX3_soundAt_9 : decode cX3_soundAt 9 = .ok (.iaload, 1) := by decide +kernel
theorem dX3_soundAt_10 : decode cX3_soundAt 10 = .ok (.iaload, 1) := by decide +kernel
theorem dX3_soundAt_11 : decode cX3_soundAt 11 = .ok (.ireturn, 1) := by decide +kernel
theorem dX3_placeAt_0 : decode cX3_placeAt 0 = .ok (.aload_n 0, 1) := by decide +kernel
theorem dX3_placeAt_1 : decode cX3_placeAt 1 = .ok (.getfield 23, 3) := by decide +kernel
theorem dX3_placeAt_4 : decode cX3_placeAt 4 = .ok (.iload_n 1, 1) := by decide +kernel
theorem dX3_placeAt_5 : decode cX3_placeAt 5 = .ok (.iaload, 1) := by decide +kernel
theorem dX3_placeAt_6 : decode cX3_placeAt 6 = .ok (.bipush 8, 2) := by decide +kernel
theorem dX3_placeAt_8 : decode cX3_placeAt 8 = .ok (.idiv, 1) := by decide +kernel
theorem dX3_placeAt_9 : decode cX3_placeAt 9 = .ok (.ireturn, 1) := by decide +kernel
theorem dX3_wayAt_0 : decode cX3_wayAt 0 = .ok (.aload_n 0, 1) := by decide +kernel
theorem dX3_wayAt_1 : decode cX3_wayAt 1 = .ok (.getfield 23, 3) := by decide +kernel
theorem dX3_wayAt_4 : decode cX3_wayAt 4 = .ok (.iload_n 1, 1) := by decide +kernel
theorem dX3_wayAt_5 : decode cX3_wayAt 5 = .ok (.iaload, 1) := by decide +kernel
theorem dX3_wayAt_6 : decode cX3_wayAt 6 = .ok (.bipush 8, 2) := by decide +kernel
theorem dX3_wayAt_8 : decode cX3_wayAt 8 = .ok (.irem, 1) := by decide +kernel
theorem dX3_wayAt_9 : decode cX3_wayAt 9 = .ok (.iconst 4, 1) := by decide +kernel
theorem dX3_wayAt_10 : decode cX3_wayAt 10 = .ok (.idiv, 1) := by decide +kernel
theorem dX3_wayAt_11 : decode cX3_wayAt 11 = .ok (.ireturn, 1) := by decide +kernel
theorem dX3_find_0 : decode cX3_find 0 = .ok (.aload_n 0, 1) := by decide +kernel
theorem dX3_find_1 : decode cX3_find 1 = .ok (.iconst 0, 1) := by decide +kernel
theorem dX3_find_2 : decode cX3_find 2 = .ok (.putfield 30, 3) := by decide +kernel
theorem dX3_find_5 : decode cX3_find 5 = .ok (.aload_n 3, 1) := by decide +kernel
theorem dX3_find_6 : decode cX3_find 6 = .ok (.invokevirtual 34, 3) := by decide +kernel
theorem dX3_find_9 : decode cX3_find 9 = .ok (.ifCond .eq 10, 3) := by decide +kernel
theorem dX3_find_12 : decode cX3_find 12 = .ok (.aload_n 1, 1) := by decide +kernel
theorem dX3_find_13 : decode cX3_find 13 = .ok (.invokevirtual 40, 3) := by decide +kernel
theorem dX3_find_16 : decode cX3_find 16 = .ok (.ifCond .ne 6, 3) := by decide +kernel
theorem dX3_find_19 : decode cX3_find 19 = .ok (.ldc 45, 2) := by decide +kernel
theorem dX3_find_21 : decode cX3_find 21 = .ok (.ireturn, 1) := by decide +kernel
theorem dX3_find_22 : decode cX3_find 22 = .ok (.aload_n 0, 1) := by decide +kernel
theorem dX3_find_23 : decode cX3_find 23 = .ok (.aload_n 2, 1) := by decide +kernel
theorem dX3_find_24 : decode cX3_find 24 = .ok (.aload_n 3, 1) := by decide +kernel
theorem dX3_find_25 : decode cX3_find 25 = .ok (.invokevirtual 46, 3) := by decide +kernel
theorem dX3_find_28 : decode cX3_find 28 = .ok (.aload_n 0, 1) := by decide +kernel
theorem dX3_find_29 : decode cX3_find 29 = .ok (.aload_n 1, 1) := by decide +kernel
theorem dX3_find_30 : decode cX3_find 30 = .ok (.invokevirtual 50, 3) := by decide +kernel
theorem dX3_find_33 : decode cX3_find 33 = .ok (.aload_n 2, 1) := by decide +kernel
theorem dX3_find_34 : decode cX3_find 34 = .ok (.iconst (-1), 1) := by decide +kernel
theorem dX3_find_35 : decode cX3_find 35 = .ok (.aload_n 3, 1) := by decide +kernel
theorem dX3_find_36 : decode cX3_find 36 = .ok (.iconst 0, 1) := by decide +kernel
theorem dX3_find_37 : decode cX3_find 37 = .ok (.invokevirtual 54, 3) := by decide +kernel
theorem dX3_find_40 : decode cX3_find 40 = .ok (.invokevirtual 58, 3) := by decide +kernel
theorem dX3_find_43 : decode cX3_find 43 = .ok (.aload_n 0, 1) := by decide +kernel
theorem dX3_find_44 : decode cX3_find 44 = .ok (.getfield 20, 3) := by decide +kernel
theorem dX3_find_47 : decode cX3_find 47 = .ok (.iconst 0, 1) := by decide +kernel
theorem dX3_find_48 : decode cX3_find 48 = .ok (.aaload, 1) := by decide +kernel
theorem dX3_find_49 : decode cX3_find 49 = .ok (.aload_n 0, 1) := by decide +kernel
theorem dX3_find_50 : decode cX3_find 50 = .ok (.iconst 0, 1) := by decide +kernel
theorem dX3_find_51 : decode cX3_find 51 = .ok (.iconst 0, 1) := by decide +kernel
theorem dX3_find_52 : decode cX3_find 52 = .ok (.invokevirtual 64, 3) := by decide +kernel
theorem dX3_find_55 : decode cX3_find 55 = .ok (.iaload, 1) := by decide +kernel
theorem dX3_find_56 : decode cX3_find 56 = .ok (.iadd, 1) := by decide +kernel
theorem dX3_find_57 : decode cX3_find 57 = .ok (.istore 4, 2) := by decide +kernel
theorem dX3_find_59 : decode cX3_find 59 = .ok (.iload 4, 2) := by decide +kernel
theorem dX3_find_61 : decode cX3_find 61 = .ok (.ldc 45, 2) := by decide +kernel
theorem dX3_find_63 : decode cX3_find 63 = .ok (.if_icmp .ge 13, 3) := by decide +kernel
theorem dX3_find_66 : decode cX3_find 66 = .ok (.aload_n 0, 1) := by decide +kernel
theorem dX3_find_67 : decode cX3_find 67 = .ok (.aload_n 1, 1) := by decide +kernel
theorem dX3_find_68 : decode cX3_find 68 = .ok (.invokevirtual 67, 3) := by decide +kernel
theorem dX3_find_71 : decode cX3_find 71 = .ok (.aload_n 0, 1) := by decide +kernel
theorem dX3_find_72 : decode cX3_find 72 = .ok (.iconst 1, 1) := by decide +kernel
theorem dX3_find_73 : decode cX3_find 73 = .ok (.putfield 30, 3) := by decide +kernel
theorem dX3_find_76 : decode cX3_find 76 = .ok (.iload 4, 2) := by decide +kernel
theorem dX3_find_78 : decode cX3_find 78 = .ok (.ireturn, 1) := by decide +kernel
theorem dX3_takeRow_0 : decode cX3_takeRow 0 = .ok (.aload_n 0, 1) := by decide +kernel
theorem dX3_takeRow_1 : decode cX3_takeRow 1 = .ok (.getfield 11, 3) := by decide +kernel
theorem dX3_takeRow_4 : decode cX3_takeRow 4 = .ok (.iconst (-1), 1) := by decide +kernel
theorem dX3_takeRow_5 : decode cX3_takeRow 5 = .ok (.invokestatic 70, 3) := by decide +kernel
theorem dX3_takeRow_8 : decode cX3_takeRow 8 = .ok (.aload_n 0, 1) := by decide +kernel
theorem dX3_takeRow_9 : decode cX3_takeRow 9 = .ok (.aload_n 2, 1) := by decide +kernel
theorem dX3_takeRow_10 : decode cX3_takeRow 10 = .ok (.invokevirtual 34, 3) := by decide +kernel
theorem dX3_takeRow_13 : decode cX3_takeRow 13 = .ok (.putfield 26, 3) := by decide +kernel
theorem dX3_takeRow_16 : decode cX3_takeRow 16 = .ok (.iconst 0, 1) := by decide +kernel
theorem dX3_takeRow_17 : decode cX3_takeRow 17 = .ok (.istore_n 3, 1) := by decide +kernel
theorem dX3_takeRow_18 : decode cX3_takeRow 18 = .ok (.iload_n 3, 1) := by decide +kernel
theorem dX3_takeRow_19 : decode cX3_takeRow 19 = .ok (.aload_n 0, 1) := by decide +kernel
theorem dX3_takeRow_20 : decode cX3_takeRow 20 = .ok (.getfield 26, 3) := by decide +kernel
theorem dX3_takeRow_23 : decode cX3_takeRow 23 = .ok (.if_icmp .ge 122, 3) := by decide +kernel
theorem dX3_takeRow_26 : decode cX3_takeRow 26 = .ok (.aload_n 2, 1) := by decide +kernel
theorem dX3_takeRow_27 : decode cX3_takeRow 27 = .ok (.iload_n 3, 1) := by decide +kernel
theorem dX3_takeRow_28 : decode cX3_takeRow 28 = .ok (.invokevirtual 54, 3) := by decide +kernel
theorem dX3_takeRow_31 : decode cX3_takeRow 31 = .ok (.istore 4, 2) := by decide +kernel
theorem dX3_takeRow_33 : decode cX3_takeRow 33 = .ok (.aload_n 0, 1) := by decide +kernel
theorem dX3_takeRow_34 : decode cX3_takeRow 34 = .ok (.getfield 15, 3) := by decide +kernel
theorem dX3_takeRow_37 : decode cX3_takeRow 37 = .ok (.iload_n 3, 1) := by decide +kernel
theorem dX3_takeRow_38 : decode cX3_takeRow 38 = .ok (.aload_n 1, 1) := by decide +kernel
theorem dX3_takeRow_39 : decode cX3_takeRow 39 = .ok (.iload 4, 2) := by decide +kernel
theorem dX3_takeRow_41 : decode cX3_takeRow 41 = .ok (.iload_n 3, 1) := by decide +kernel
theorem dX3_takeRow_42 : decode cX3_takeRow 42 = .ok (.iconst 1, 1) := by decide +kernel
theorem dX3_takeRow_43 : decode cX3_takeRow 43 = .ok (.iadd, 1) := by decide +kernel
theorem dX3_takeRow_44 : decode cX3_takeRow 44 = .ok (.aload_n 0, 1) := by decide +kernel
theorem dX3_takeRow_45 : decode cX3_takeRow 45 = .ok (.getfield 26, 3) := by decide +kernel
theorem dX3_takeRow_48 : decode cX3_takeRow 48 = .ok (.if_icmp .ge 13, 3) := by decide +kernel
theorem dX3_takeRow_51 : decode cX3_takeRow 51 = .ok (.aload_n 2, 1) := by decide +kernel
theorem dX3_takeRow_52 : decode cX3_takeRow 52 = .ok (.iload_n 3, 1) := by decide +kernel
theorem dX3_takeRow_53 : decode cX3_takeRow 53 = .ok (.iconst 1, 1) := by decide +kernel
theorem dX3_takeRow_54 : decode cX3_takeRow 54 = .ok (.iadd, 1) := by decide +kernel
theorem dX3_takeRow_55 : decode cX3_takeRow 55 = .ok (.invokevirtual 54, 3) := by decide +kernel
theorem dX3_takeRow_58 : decode cX3_takeRow 58 = .ok (.goto 4, 3) := by decide +kernel
theorem dX3_takeRow_61 : decode cX3_takeRow 61 = .ok (.iconst (-1), 1) := by decide +kernel
theorem dX3_takeRow_62 : decode cX3_takeRow 62 = .ok (.invokevirtual 58, 3) := by decide +kernel
theorem dX3_takeRow_65 : decode cX3_takeRow 65 = .ok (.iastore, 1) := by decide +kernel
theorem dX3_takeRow_66 : decode cX3_takeRow 66 = .ok (.iconst 0, 1) := by decide +kernel
theorem dX3_takeRow_67 : decode cX3_takeRow 67 = .ok (.istore 5, 2) := by decide +kernel
theorem dX3_takeRow_69 : decode cX3_takeRow 69 = .ok (.iload 5, 2) := by decide +kernel
theorem dX3_takeRow_71 : decode cX3_takeRow 71 = .ok (.aload_n 1, 1) := by decide +kernel
theorem dX3_takeRow_72 : decode cX3_takeRow 72 = .ok (.iload 4, 2) := by decide +kernel
theorem dX3_takeRow_74 : decode cX3_takeRow 74 = .ok (.invokevirtual 76, 3) := by decide +kernel
theorem dX3_takeRow_77 : decode cX3_takeRow 77 = .ok (.if_icmp .ge 62, 3) := by decide +kernel
theorem dX3_takeRow_80 : decode cX3_takeRow 80 = .ok (.iload_n 3, 1) := by decide +kernel
theorem dX3_takeRow_81 : decode cX3_takeRow 81 = .ok (.bipush 8, 2) := by decide +kernel
theorem dX3_takeRow_83 : decode cX3_takeRow 83 = .ok (.imul, 1) := by decide +kernel
theorem dX3_takeRow_84 : decode cX3_takeRow 84 = .ok (.iload 5, 2) := by decide +kernel
theorem dX3_takeRow_86 : decode cX3_takeRow 86 = .ok (.iconst 4, 1) := by decide +kernel
theorem dX3_takeRow_87 : decode cX3_takeRow 87 = .ok (.imul, 1) := by decide +kernel
theorem dX3_takeRow_88 : decode cX3_takeRow 88 = .ok (.iadd, 1) := by decide +kernel
theorem dX3_takeRow_89 : decode cX3_takeRow 89 = .ok (.istore 6, 2) := by decide +kernel
theorem dX3_takeRow_91 : decode cX3_takeRow 91 = .ok (.iconst 0, 1) := by decide +kernel
theorem dX3_takeRow_92 : decode cX3_takeRow 92 = .ok (.istore 7, 2) := by decide +kernel
theorem dX3_takeRow_94 : decode cX3_takeRow 94 = .ok (.iload 7, 2) := by decide +kernel
theorem dX3_takeRow_96 : decode cX3_takeRow 96 = .ok (.aload_n 1, 1) := by decide +kernel
theorem dX3_takeRow_97 : decode cX3_takeRow 97 = .ok (.iload 4, 2) := by decide +kernel
theorem dX3_takeRow_99 : decode cX3_takeRow 99 = .ok (.iload 5, 2) := by decide +kernel
theorem dX3_takeRow_101 : decode cX3_takeRow 101 = .ok (.invokevirtual 79, 3) := by decide +kernel
theorem dX3_takeRow_104 : decode cX3_takeRow 104 = .ok (.if_icmp .ge 29, 3) := by decide +kernel
theorem dX3_takeRow_107 : decode cX3_takeRow 107 = .ok (.aload_n 0, 1) := by decide +kernel
theorem dX3_takeRow_108 : decode cX3_takeRow 108 = .ok (.getfield 11, 3) := by decide +kernel
theorem dX3_takeRow_111 : decode cX3_takeRow 111 = .ok (.iload 6, 2) := by decide +kernel
theorem dX3_takeRow_113 : decode cX3_takeRow 113 = .ok (.iload 7, 2) := by decide +kernel
theorem dX3_takeRow_115 : decode cX3_takeRow 115 = .ok (.iadd, 1) := by decide +kernel
theorem dX3_takeRow_116 : decode cX3_takeRow 116 = .ok (.aload_n 1, 1) := by decide +kernel
theorem dX3_takeRow_117 : decode cX3_takeRow 117 = .ok (.iload 4, 2) := by decide +kernel
theorem dX3_takeRow_119 : decode cX3_takeRow 119 = .ok (.iload 5, 2) := by decide +kernel
theorem dX3_takeRow_121 : decode cX3_takeRow 121 = .ok (.iload 7, 2) := by decide +kernel
theorem dX3_takeRow_123 : decode cX3_takeRow 123 = .ok (.invokevirtual 82, 3) := by decide +kernel
theorem dX3_takeRow_126 : decode cX3_takeRow 126 = .ok (.iastore, 1) := by decide +kernel
theorem dX3_takeRow_127 : decode cX3_takeRow 127 = .ok (.iinc 7 1, 3) := by decide +kernel
theorem dX3_takeRow_130 : decode cX3_takeRow 130 = .ok (.goto (-36), 3) := by decide +kernel
theorem dX3_takeRow_133 : decode cX3_takeRow 133 = .ok (.iinc 5 1, 3) := by decide +kernel
theorem dX3_takeRow_136 : decode cX3_takeRow 136 = .ok (.goto (-67), 3) := by decide +kernel
theorem dX3_takeRow_139 : decode cX3_takeRow 139 = .ok (.iinc 3 1, 3) := by decide +kernel
theorem dX3_takeRow_142 : decode cX3_takeRow 142 = .ok (.goto (-124), 3) := by decide +kernel
theorem dX3_takeRow_145 : decode cX3_takeRow 145 = .ok (.return_, 1) := by decide +kernel
theorem dX3_lookAhead_0 : decode cX3_lookAhead 0 = .ok (.aload_n 1, 1) := by decide +kernel
theorem dX3_lookAhead_1 : decode cX3_lookAhead 1 = .ok (.invokevirtual 40, 3) := by decide +kernel
theorem dX3_lookAhead_4 : decode cX3_lookAhead 4 = .ok (.istore_n 2, 1) := by decide +kernel
theorem dX3_lookAhead_5 : decode cX3_lookAhead 5 = .ok (.aload_n 0, 1) := by decide +kernel
theorem dX3_lookAhead_6 : decode cX3_lookAhead 6 = .ok (.getfield 20, 3) := by decide +kernel
theorem dX3_lookAhead_9 : decode cX3_lookAhead 9 = .ok (.iload_n 2, 1) := by decide +kernel
theorem dX3_lookAhead_10 : decode cX3_lookAhead 10 = .ok (.aaload, 1) := by decide +kernel
theorem dX3_lookAhead_11 : decode cX3_lookAhead 11 = .ok (.ldc 45, 2) := by decide +kernel
theorem dX3_lookAhead_13 : decode cX3_lookAhead 13 = .ok (.invokestatic 70, 3) := by decide +kernel
theorem dX3_lookAhead_16 : decode cX3_lookAhead 16 = .ok (.iload_n 2, 1) := by decide +kernel
theorem dX3_lookAhead_17 : decode cX3_lookAhead 17 = .ok (.iconst 1, 1) := by decide +kernel
theorem dX3_lookAhead_18 : decode cX3_lookAhead 18 = .ok (.isub, 1) := by decide +kernel
theorem dX3_lookAhead_19 : decode cX3_lookAhead 19 = .ok (.istore_n 3, 1) := by decide +kernel
theorem dX3_lookAhead_20 : decode cX3_lookAhead 20 = .ok (.iload_n 3, 1) := by decide +kernel
theorem dX3_lookAhead_21 : decode cX3_lookAhead 21 = .ok (.ifCond .lt 106, 3) := by decide +kernel
theorem dX3_lookAhead_24 : decode cX3_lookAhead 24 = .ok (.aload_n 0, 1) := by decide +kernel
theorem dX3_lookAhead_25 : decode cX3_lookAhead 25 = .ok (.getfield 20, 3) := by decide +kernel
theorem dX3_lookAhead_28 : decode cX3_lookAhead 28 = .ok (.iload_n 3, 1) := by decide +kernel
theorem dX3_lookAhead_29 : decode cX3_lookAhead 29 = .ok (.aaload, 1) := by decide +kernel
theorem dX3_lookAhead_30 : decode cX3_lookAhead 30 = .ok (.ldc 45, 2) := by decide +kernel
theorem dX3_lookAhead_32 : decode cX3_lookAhead 32 = .ok (.invokestatic 70, 3) := by decide +kernel
theorem dX3_lookAhead_35 : decode cX3_lookAhead 35 = .ok (.iconst 0, 1) := by decide +kernel
theorem dX3_lookAhead_36 : decode cX3_lookAhead 36 = .ok (.istore 4, 2) := by decide +kernel
theorem dX3_lookAhead_38 : decode cX3_lookAhead 38 = .ok (.iload 4, 2) := by decide +kernel
theorem dX3_lookAhead_40 : decode cX3_lookAhead 40 = .ok (.aload_n 0, 1) := by decide +kernel
theorem dX3_lookAhead_41 : decode cX3_lookAhead 41 = .ok (.getfield 26, 3) := by decide +kernel
theorem dX3_lookAhead_44 : decode cX3_lookAhead 44 = .ok (.bipush 8, 2) := by decide +kernel
theorem dX3_lookAhead_46 : decode cX3_lookAhead 46 = .ok (.imul, 1) := by decide +kernel
theorem dX3_lookAhead_47 : decode cX3_lookAhead 47 = .ok (.if_icmp .ge 74, 3) := by decide +kernel
theorem dX3_lookAhead_50 : decode cX3_lookAhead 50 = .ok (.aload_n 0, 1) := by decide +kernel
theorem dX3_lookAhead_51 : decode cX3_lookAhead 51 = .ok (.getfield 11, 3) := by decide +kernel
theorem dX3_lookAhead_54 : decode cX3_lookAhead 54 = .ok (.iload 4, 2) := by decide +kernel
theorem dX3_lookAhead_56 : decode cX3_lookAhead 56 = .ok (.iaload, 1) := by decide +kernel
theorem dX3_lookAhead_57 : decode cX3_lookAhead 57 = .ok (.iconst (-1), 1) := by decide +kernel
theorem dX3_lookAhead_58 : decode cX3_lookAhead 58 = .ok (.if_icmp .eq 57, 3) := by decide +kernel
theorem dX3_lookAhead_61 : decode cX3_lookAhead 61 = .ok (.aload_n 0, 1) := by decide +kernel
theorem dX3_lookAhead_62 : decode cX3_lookAhead 62 = .ok (.iload 4, 2) := by decide +kernel
theorem dX3_lookAhead_64 : decode cX3_lookAhead 64 = .ok (.iload_n 3, 1) := by decide +kernel
theorem dX3_lookAhead_65 : decode cX3_lookAhead 65 = .ok (.iconst 1, 1) := by decide +kernel
theorem dX3_lookAhead_66 : decode cX3_lookAhead 66 = .ok (.iadd, 1) := by decide +kernel
theorem dX3_lookAhead_67 : decode cX3_lookAhead 67 = .ok (.iload_n 2, 1) := by decide +kernel
theorem dX3_lookAhead_68 : decode cX3_lookAhead 68 = .ok (.invokevirtual 86, 3) := by decide +kernel
theorem dX3_lookAhead_71 : decode cX3_lookAhead 71 = .ok (.aload_n 0, 1) := by decide +kernel
theorem dX3_lookAhead_72 : decode cX3_lookAhead 72 = .ok (.aload_n 1, 1) := by decide +kernel
theorem dX3_lookAhead_73 : decode cX3_lookAhead 73 = .ok (.iload 4, 2) := by decide +kernel
theorem dX3_lookAhead_75 : decode cX3_lookAhead 75 = .ok (.iload_n 3, 1) := by decide +kernel
theorem dX3_lookAhead_76 : decode cX3_lookAhead 76 = .ok (.iconst 1, 1) := by decide +kernel
theorem dX3_lookAhead_77 : decode cX3_lookAhead 77 = .ok (.iadd, 1) := by decide +kernel
theorem dX3_lookAhead_78 : decode cX3_lookAhead 78 = .ok (.invokevirtual 89, 3) := by decide +kernel
theorem dX3_lookAhead_81 : decode cX3_lookAhead 81 = .ok (.invokestatic 93, 3) := by decide +kernel
theorem dX3_lookAhead_84 : decode cX3_lookAhead 84 = .ok (.istore 5, 2) := by decide +kernel
theorem dX3_lookAhead_86 : decode cX3_lookAhead 86 = .ok (.aload_n 0, 1) := by decide +kernel
theorem dX3_lookAhead_87 : decode cX3_lookAhead 87 = .ok (.getfield 20, 3) := by decide +kernel
theorem dX3_lookAhead_90 : decode cX3_lookAhead 90 = .ok (.iload_n 3, 1) := by decide +kernel
theorem dX3_lookAhead_91 : decode cX3_lookAhead 91 = .ok (.aaload, 1) := by decide +kernel
theorem dX3_lookAhead_92 : decode cX3_lookAhead 92 = .ok (.iload 4, 2) := by decide +kernel
theorem dX3_lookAhead_94 : decode cX3_lookAhead 94 = .ok (.ldc 45, 2) := by decide +kernel
theorem dX3_lookAhead_96 : decode cX3_lookAhead 96 = .ok (.iload 5, 2) := by decide +kernel
theorem dX3_lookAhead_98 : decode cX3_lookAhead 98 = .ok (.aload_n 1, 1) := by decide +kernel
theorem dX3_lookAhead_99 : decode cX3_lookAhead 99 = .ok (.aload_n 0, 1) := by decide +kernel
theorem dX3_lookAhead_100 : decode cX3_lookAhead 100 = .ok (.getfield 11, 3) := by decide +kernel
theorem dX3_lookAhead_103 : decode cX3_lookAhead 103 = .ok (.iload 4, 2) := by decide +kernel
theorem dX3_lookAhead_105 : decode cX3_lookAhead 105 = .ok (.iaload, 1) := by decide +kernel
theorem dX3_lookAhead_106 : decode cX3_lookAhead 106 = .ok (.iload_n 3, 1) := by decide +kernel
theorem dX3_lookAhead_107 : decode cX3_lookAhead 107 = .ok (.invokevirtual 98, 3) := by decide +kernel
theorem dX3_lookAhead_110 : decode cX3_lookAhead 110 = .ok (.iadd, 1) := by decide +kernel
theorem dX3_lookAhead_111 : decode cX3_lookAhead 111 = .ok (.invokestatic 93, 3) := by decide +kernel
theorem dX3_lookAhead_114 : decode cX3_lookAhead 114 = .ok (.iastore, 1) := by decide +kernel
theorem dX3_lookAhead_115 : decode cX3_lookAhead 115 = .ok (.iinc 4 1, 3) := by decide +kernel
theorem dX3_lookAhead_118 : decode cX3_lookAhead 118 = .ok (.goto (-80), 3) := by decide +kernel
theorem dX3_lookAhead_121 : decode cX3_lookAhead 121 = .ok (.iinc 3 (-1), 3) := by decide +kernel
theorem dX3_lookAhead_124 : decode cX3_lookAhead 124 = .ok (.goto (-104), 3) := by decide +kernel
theorem dX3_lookAhead_127 : decode cX3_lookAhead 127 = .ok (.return_, 1) := by decide +kernel
theorem dX3_stayOn_0 : decode cX3_stayOn 0 = .ok (.aload_n 0, 1) := by decide +kernel
theorem dX3_stayOn_1 : decode cX3_stayOn 1 = .ok (.getfield 20, 3) := by decide +kernel
theorem dX3_stayOn_4 : decode cX3_stayOn 4 = .ok (.iload_n 3, 1) := by decide +kernel
theorem dX3_stayOn_5 : decode cX3_stayOn 5 = .ok (.aaload, 1) := by decide +kernel
theorem dX3_stayOn_6 : decode cX3_stayOn 6 = .ok (.iload_n 2, 1) := by decide +kernel
theorem dX3_stayOn_7 : decode cX3_stayOn 7 = .ok (.iaload, 1) := by decide +kernel
theorem dX3_stayOn_8 : decode cX3_stayOn 8 = .ok (.aload_n 1, 1) := by decide +kernel
theorem dX3_stayOn_9 : decode cX3_stayOn 9 = .ok (.invokevirtual 101, 3) := by decide +kernel
theorem dX3_stayOn_12 : decode cX3_stayOn 12 = .ok (.iadd, 1) := by decide +kernel
theorem dX3_stayOn_13 : decode cX3_stayOn 13 = .ok (.ireturn, 1) := by decide +kernel
theorem dX3_goOn_0 : decode cX3_goOn 0 = .ok (.aload_n 0, 1) := by decide +kernel
theorem dX3_goOn_1 : decode cX3_goOn 1 = .ok (.iload_n 1, 1) := by decide +kernel
theorem dX3_goOn_2 : decode cX3_goOn 2 = .ok (.invokevirtual 104, 3) := by decide +kernel
theorem dX3_goOn_5 : decode cX3_goOn 5 = .ok (.ifCond .eq 14, 3) := by decide +kernel
theorem dX3_goOn_8 : decode cX3_goOn 8 = .ok (.aload_n 0, 1) := by decide +kernel
theorem dX3_goOn_9 : decode cX3_goOn 9 = .ok (.getfield 20, 3) := by decide +kernel
theorem dX3_goOn_12 : decode cX3_goOn 12 = .ok (.iload_n 2, 1) := by decide +kernel
theorem dX3_goOn_13 : decode cX3_goOn 13 = .ok (.aaload, 1) := by decide +kernel
theorem dX3_goOn_14 : decode cX3_goOn 14 = .ok (.iload_n 1, 1) := by decide +kernel
theorem dX3_goOn_15 : decode cX3_goOn 15 = .ok (.iconst 1, 1) := by decide +kernel
theorem dX3_goOn_16 : decode cX3_goOn 16 = .ok (.iadd, 1) := by decide +kernel
theorem dX3_goOn_17 : decode cX3_goOn 17 = .ok (.iaload, 1) := by decide +kernel
theorem dX3_goOn_18 : decode cX3_goOn 18 = .ok (.ireturn, 1) := by decide +kernel
theorem dX3_goOn_19 : decode cX3_goOn 19 = .ok (.iload_n 1, 1) := by decide +kernel
theorem dX3_goOn_20 : decode cX3_goOn 20 = .ok (.bipush 8, 2) := by decide +kernel
theorem dX3_goOn_22 : decode cX3_goOn 22 = .ok (.idiv, 1) := by decide +kernel
theorem dX3_goOn_23 : decode cX3_goOn 23 = .ok (.istore 4, 2) := by decide +kernel
theorem dX3_goOn_25 : decode cX3_goOn 25 = .ok (.iload 4, 2) := by decide +kernel
theorem dX3_goOn_27 : decode cX3_goOn 27 = .ok (.iconst 1, 1) := by decide +kernel
theorem dX3_goOn_28 : decode cX3_goOn 28 = .ok (.iadd, 1) := by decide +kernel
theorem dX3_goOn_29 : decode cX3_goOn 29 = .ok (.aload_n 0, 1) := by decide +kernel
theorem dX3_goOn_30 : decode cX3_goOn 30 = .ok (.getfield 26, 3) := by decide +kernel
theorem dX3_goOn_33 : decode cX3_goOn 33 = .ok (.if_icmp .ne 7, 3) := by decide +kernel
theorem dX3_goOn_36 : decode cX3_goOn 36 = .ok (.iconst 1, 1) := by decide +kernel
theorem dX3_goOn_37 : decode cX3_goOn 37 = .ok (.goto 4, 3) := by decide +kernel
theorem dX3_goOn_40 : decode cX3_goOn 40 = .ok (.iconst 0, 1) := by decide +kernel
theorem dX3_goOn_41 : decode cX3_goOn 41 = .ok (.istore 5, 2) := by decide +kernel
theorem dX3_goOn_43 : decode cX3_goOn 43 = .ok (.iload_n 2, 1) := by decide +kernel
theorem dX3_goOn_44 : decode cX3_goOn 44 = .ok (.iload_n 3, 1) := by decide +kernel
theorem dX3_goOn_45 : decode cX3_goOn 45 = .ok (.if_icmp .ne 7, 3) := by decide +kernel
theorem dX3_goOn_48 : decode cX3_goOn 48 = .ok (.iconst 1, 1) := by decide +kernel
theorem dX3_goOn_49 : decode cX3_goOn 49 = .ok (.goto 4, 3) := by decide +kernel
theorem dX3_goOn_52 : decode cX3_goOn 52 = .ok (.iconst 0, 1) := by decide +kernel
theorem dX3_goOn_53 : decode cX3_goOn 53 = .ok (.istore 6, 2) := by decide +kernel
theorem dX3_goOn_55 : decode cX3_goOn 55 = .ok (.iload 5, 2) := by decide +kernel
theorem dX3_goOn_57 : decode cX3_goOn 57 = .ok (.iload 6, 2) := by decide +kernel
theorem dX3_goOn_59 : decode cX3_goOn 59 = .ok (.if_icmp .eq 6, 3) := by decide +kernel
theorem dX3_goOn_62 : decode cX3_goOn 62 = .ok (.ldc 45, 2) := by decide +kernel
theorem dX3_goOn_64 : decode cX3_goOn 64 = .ok (.ireturn, 1) := by decide +kernel
theorem dX3_goOn_65 : decode cX3_goOn 65 = .ok (.iload 5, 2) := by decide +kernel
theorem dX3_goOn_67 : decode cX3_goOn 67 = .ok (.ifCond .eq 13, 3) := by decide +kernel
theorem dX3_goOn_70 : decode cX3_goOn 70 = .ok (.aload_n 0, 1) := by decide +kernel
theorem dX3_goOn_71 : decode cX3_goOn 71 = .ok (.getfield 15, 3) := by decide +kernel
theorem dX3_goOn_74 : decode cX3_goOn 74 = .ok (.iload 4, 2) := by decide +kernel
theorem dX3_goOn_76 : decode cX3_goOn 76 = .ok (.iaload, 1) := by decide +kernel
theorem dX3_goOn_77 : decode cX3_goOn 77 = .ok (.goto 27, 3) := by decide +kernel
theorem dX3_goOn_80 : decode cX3_goOn 80 = .ok (.aload_n 0, 1) := by decide +kernel
theorem dX3_goOn_81 : decode cX3_goOn 81 = .ok (.getfield 15, 3) := by decide +kernel
theorem dX3_goOn_84 : decode cX3_goOn 84 = .ok (.iload 4, 2) := by decide +kernel
theorem dX3_goOn_86 : decode cX3_goOn 86 = .ok (.iaload, 1) := by decide +kernel
theorem dX3_goOn_87 : decode cX3_goOn 87 = .ok (.aload_n 0, 1) := by decide +kernel
theorem dX3_goOn_88 : decode cX3_goOn 88 = .ok (.getfield 20, 3) := by decide +kernel
theorem dX3_goOn_91 : decode cX3_goOn 91 = .ok (.iload_n 2, 1) := by decide +kernel
theorem dX3_goOn_92 : decode cX3_goOn 92 = .ok (.aaload, 1) := by decide +kernel
theorem dX3_goOn_93 : decode cX3_goOn 93 = .ok (.aload_n 0, 1) := by decide +kernel
theorem dX3_goOn_94 : decode cX3_goOn 94 = .ok (.iload 4, 2) := by decide +kernel
theorem dX3_goOn_96 : decode cX3_goOn 96 = .ok (.iconst 1, 1) := by decide +kernel
theorem dX3_goOn_97 : decode cX3_goOn 97 = .ok (.iadd, 1) := by decide +kernel
theorem dX3_goOn_98 : decode cX3_goOn 98 = .ok (.iload_n 2, 1) := by decide +kernel
theorem dX3_goOn_99 : decode cX3_goOn 99 = .ok (.invokevirtual 64, 3) := by decide +kernel
theorem dX3_goOn_102 : decode cX3_goOn 102 = .ok (.iaload, 1) := by decide +kernel
theorem dX3_goOn_103 : decode cX3_goOn 103 = .ok (.iadd, 1) := by decide +kernel
theorem dX3_goOn_104 : decode cX3_goOn 104 = .ok (.ireturn, 1) := by decide +kernel
theorem dX3_hasSoundBehind_0 : decode cX3_hasSoundBehind 0 = .ok (.iload_n 1, 1) := by decide +kernel
theorem dX3_hasSoundBehind_1 : decode cX3_hasSoundBehind 1 = .ok (.iconst 4, 1) := by decide +kernel
theorem dX3_hasSoundBehind_2 : decode cX3_hasSoundBehind 2 = .ok (.irem, 1) := by decide +kernel
theorem dX3_hasSoundBehind_3 : decode cX3_hasSoundBehind 3 = .ok (.iconst 1, 1) := by decide +kernel
theorem dX3_hasSoundBehind_4 : decode cX3_hasSoundBehind 4 = .ok (.iadd, 1) := by decide +kernel
theorem dX3_hasSoundBehind_5 : decode cX3_hasSoundBehind 5 = .ok (.iconst 4, 1) := by decide +kernel
theorem dX3_hasSoundBehind_6 : decode cX3_hasSoundBehind 6 = .ok (.if_icmp .ge 19, 3) := by decide +kernel
theorem dX3_hasSoundBehind_9 : decode cX3_hasSoundBehind 9 = .ok (.aload_n 0, 1) := by decide +kernel
theorem dX3_hasSoundBehind_10 : decode cX3_hasSoundBehind 10 = .ok (.getfield 11, 3) := by decide +kernel
theorem dX3_hasSoundBehind_13 : decode cX3_hasSoundBehind 13 = .ok (.iload_n 1, 1) := by decide +kernel
theorem dX3_hasSoundBehind_14 : decode cX3_hasSoundBehind 14 = .ok (.iconst 1, 1) := by decide +kernel
theorem dX3_hasSoundBehind_15 : decode cX3_hasSoundBehind 15 = .ok (.iadd, 1) := by decide +kernel
theorem dX3_hasSoundBehind_16 : decode cX3_hasSoundBehind 16 = .ok (.iaload, 1) := by decide +kernel
theorem dX3_hasSoundBehind_17 : decode cX3_hasSoundBehind 17 = .ok (.iconst (-1), 1) := by decide +kernel
theorem dX3_hasSoundBehind_18 : decode cX3_hasSoundBehind 18 = .ok (.if_icmp .eq 7, 3) := by decide +kernel
theorem dX3_hasSoundBehind_21 : decode cX3_hasSoundBehind 21 = .ok (.iconst 1, 1) := by decide +kernel
theorem dX3_hasSoundBehind_22 : decode cX3_hasSoundBehind 22 = .ok (.goto 4, 3) := by decide +kernel
theorem dX3_hasSoundBehind_25 : decode cX3_hasSoundBehind 25 = .ok (.iconst 0, 1) := by decide +kernel
theorem dX3_hasSoundBehind_26 : decode cX3_hasSoundBehind 26 = .ok (.ireturn, 1) := by decide +kernel
theorem dX3_firstSlot_0 : decode cX3_firstSlot 0 = .ok (.iload_n 1, 1) := by decide +kernel
theorem dX3_firstSlot_1 : decode cX3_firstSlot 1 = .ok (.bipush 8, 2) := by decide +kernel
theorem dX3_firstSlot_3 : decode cX3_firstSlot 3 = .ok (.imul, 1) := by decide +kernel
theorem dX3_firstSlot_4 : decode cX3_firstSlot 4 = .ok (.istore_n 3, 1) := by decide +kernel
theorem dX3_firstSlot_5 : decode cX3_firstSlot 5 = .ok (.iload_n 3, 1) := by decide +kernel
theorem dX3_firstSlot_6 : decode cX3_firstSlot 6 = .ok (.iconst 4, 1) := by decide +kernel
theorem dX3_firstSlot_7 : decode cX3_firstSlot 7 = .ok (.iadd, 1) := by decide +kernel
theorem dX3_firstSlot_8 : decode cX3_firstSlot 8 = .ok (.istore 4, 2) := by decide +kernel
theorem dX3_firstSlot_10 : decode cX3_firstSlot 10 = .ok (.aload_n 0, 1) := by decide +kernel
theorem dX3_firstSlot_11 : decode cX3_firstSlot 11 = .ok (.getfield 20, 3) := by decide +kernel
theorem dX3_firstSlot_14 : decode cX3_firstSlot 14 = .ok (.iload_n 2, 1) := by decide +kernel
theorem dX3_firstSlot_15 : decode cX3_firstSlot 15 = .ok (.aaload, 1) := by decide +kernel
theorem dX3_firstSlot_16 : decode cX3_firstSlot 16 = .ok (.iload 4, 2) := by decide +kernel
theorem dX3_firstSlot_18 : decode cX3_firstSlot 18 = .ok (.iaload, 1) := by decide +kernel
theorem dX3_firstSlot_19 : decode cX3_firstSlot 19 = .ok (.aload_n 0, 1) := by decide +kernel
theorem dX3_firstSlot_20 : decode cX3_firstSlot 20 = .ok (.getfield 20, 3) := by decide +kernel
theorem dX3_firstSlot_23 : decode cX3_firstSlot 23 = .ok (.iload_n 2, 1) := by decide +kernel
theorem dX3_firstSlot_24 : decode cX3_firstSlot 24 = .ok (.aaload, 1) := by decide +kernel
theorem dX3_firstSlot_25 : decode cX3_firstSlot 25 = .ok (.iload_n 3, 1) := by decide +kernel
theorem dX3_firstSlot_26 : decode cX3_firstSlot 26 = .ok (.iaload, 1) := by decide +kernel
theorem dX3_firstSlot_27 : decode cX3_firstSlot 27 = .ok (.if_icmp .ge 8, 3) := by decide +kernel
theorem dX3_firstSlot_30 : decode cX3_firstSlot 30 = .ok (.iload 4, 2) := by decide +kernel
theorem dX3_firstSlot_32 : decode cX3_firstSlot 32 = .ok (.goto 4, 3) := by decide +kernel
theorem dX3_firstSlot_35 : decode cX3_firstSlot 35 = .ok (.iload_n 3, 1) := by decide +kernel
theorem dX3_firstSlot_36 : decode cX3_firstSlot 36 = .ok (.ireturn, 1) := by decide +kernel
theorem dX3_walk_0 : decode cX3_walk 0 = .ok (.aload_n 1, 1) := by decide +kernel
theorem dX3_walk_1 : decode cX3_walk 1 = .ok (.invokevirtual 40, 3) := by decide +kernel
theorem dX3_walk_4 : decode cX3_walk 4 = .ok (.istore_n 2, 1) := by decide +kernel
theorem dX3_walk_5 : decode cX3_walk 5 = .ok (.aload_n 0, 1) := by decide +kernel
theorem dX3_walk_6 : decode cX3_walk 6 = .ok (.iconst 0, 1) := by decide +kernel
theorem dX3_walk_7 : decode cX3_walk 7 = .ok (.iconst 0, 1) := by decide +kernel
theorem dX3_walk_8 : decode cX3_walk 8 = .ok (.invokevirtual 64, 3) := by decide +kernel
theorem dX3_walk_11 : decode cX3_walk 11 = .ok (.istore_n 3, 1) := by decide +kernel
theorem dX3_walk_12 : decode cX3_walk 12 = .ok (.aload_n 0, 1) := by decide +kernel
theorem dX3_walk_13 : decode cX3_walk 13 = .ok (.getfield 23, 3) := by decide +kernel
theorem dX3_walk_16 : decode cX3_walk 16 = .ok (.iconst 0, 1) := by decide +kernel
theorem dX3_walk_17 : decode cX3_walk 17 = .ok (.iload_n 3, 1) := by decide +kernel
theorem dX3_walk_18 : decode cX3_walk 18 = .ok (.iastore, 1) := by decide +kernel
theorem dX3_walk_19 : decode cX3_walk 19 = .ok (.iconst 1, 1) := by decide +kernel
theorem dX3_walk_20 : decode cX3_walk 20 = .ok (.istore 4, 2) := by decide +kernel
theorem dX3_walk_22 : decode cX3_walk 22 = .ok (.iload 4, 2) := by decide +kernel
theorem dX3_walk_24 : decode cX3_walk 24 = .ok (.iload_n 2, 1) := by decide +kernel
theorem dX3_walk_25 : decode cX3_walk 25 = .ok (.if_icmp .ge 74, 3) := by decide +kernel
theorem dX3_walk_28 : decode cX3_walk 28 = .ok (.aload_n 0, 1) := by decide +kernel
theorem dX3_walk_29 : decode cX3_walk 29 = .ok (.iload_n 3, 1) := by decide +kernel
theorem dX3_walk_30 : decode cX3_walk 30 = .ok (.iload 4, 2) := by decide +kernel
theorem dX3_walk_32 : decode cX3_walk 32 = .ok (.iload_n 2, 1) := by decide +kernel
theorem dX3_walk_33 : decode cX3_walk 33 = .ok (.invokevirtual 86, 3) := by decide +kernel
theorem dX3_walk_36 : decode cX3_walk 36 = .ok (.istore 5, 2) := by decide +kernel
theorem dX3_walk_38 : decode cX3_walk 38 = .ok (.iload 5, 2) := by decide +kernel
theorem dX3_walk_40 : decode cX3_walk 40 = .ok (.ldc 45, 2) := by decide +kernel
theorem dX3_walk_42 : decode cX3_walk 42 = .ok (.if_icmp .ge 43, 3) := by decide +kernel
theorem dX3_walk_45 : decode cX3_walk 45 = .ok (.iload 5, 2) := by decide +kernel
theorem dX3_walk_47 : decode cX3_walk 47 = .ok (.aload_n 0, 1) := by decide +kernel
theorem dX3_walk_48 : decode cX3_walk 48 = .ok (.aload_n 1, 1) := by decide +kernel
theorem dX3_walk_49 : decode cX3_walk 49 = .ok (.iload_n 3, 1) := by decide +kernel
theorem dX3_walk_50 : decode cX3_walk 50 = .ok (.iload 4, 2) := by decide +kernel
theorem dX3_walk_52 : decode cX3_walk 52 = .ok (.invokevirtual 89, 3) := by decide +kernel
theorem dX3_walk_55 : decode cX3_walk 55 = .ok (.if_icmp .gt 30, 3) := by decide +kernel
theorem dX3_walk_58 : decode cX3_walk 58 = .ok (.aload_n 0, 1) := by decide +kernel
theorem dX3_walk_59 : decode cX3_walk 59 = .ok (.iload_n 3, 1) := by decide +kernel
theorem dX3_walk_60 : decode cX3_walk 60 = .ok (.invokevirtual 104, 3) := by decide +kernel
theorem dX3_walk_63 : decode cX3_walk 63 = .ok (.ifCond .eq 9, 3) := by decide +kernel
theorem dX3_walk_66 : decode cX3_walk 66 = .ok (.iload_n 3, 1) := by decide +kernel
theorem dX3_walk_67 : decode cX3_walk 67 = .ok (.iconst 1, 1) := by decide +kernel
theorem dX3_walk_68 : decode cX3_walk 68 = .ok (.iadd, 1) := by decide +kernel
theorem dX3_walk_69 : decode cX3_walk 69 = .ok (.goto 15, 3) := by decide +kernel
theorem dX3_walk_72 : decode cX3_walk 72 = .ok (.aload_n 0, 1) := by decide +kernel
theorem dX3_walk_73 : decode cX3_walk 73 = .ok (.iload_n 3, 1) := by decide +kernel
theorem dX3_walk_74 : decode cX3_walk 74 = .ok (.bipush 8, 2) := by decide +kernel
theorem dX3_walk_76 : decode cX3_walk 76 = .ok (.idiv, 1) := by decide +kernel
theorem dX3_walk_77 : decode cX3_walk 77 = .ok (.iconst 1, 1) := by decide +kernel
theorem dX3_walk_78 : decode cX3_walk 78 = .ok (.iadd, 1) := by decide +kernel
theorem dX3_walk_79 : decode cX3_walk 79 = .ok (.iload 4, 2) := by decide +kernel
theorem dX3_walk_81 : decode cX3_walk 81 = .ok (.invokevirtual 64, 3) := by decide +kernel
theorem dX3_walk_84 : decode cX3_walk 84 = .ok (.istore_n 3, 1) := by decide +kernel
theorem dX3_walk_85 : decode cX3_walk 85 = .ok (.aload_n 0, 1) := by decide +kernel
theorem dX3_walk_86 : decode cX3_walk 86 = .ok (.getfield 23, 3) := by decide +kernel
theorem dX3_walk_89 : decode cX3_walk 89 = .ok (.iload 4, 2) := by decide +kernel
theorem dX3_walk_91 : decode cX3_walk 91 = .ok (.iload_n 3, 1) := by decide +kernel
theorem dX3_walk_92 : decode cX3_walk 92 = .ok (.iastore, 1) := by decide +kernel
theorem dX3_walk_93 : decode cX3_walk 93 = .ok (.iinc 4 1, 3) := by decide +kernel
theorem dX3_walk_96 : decode cX3_walk 96 = .ok (.goto (-74), 3) := by decide +kernel
theorem dX3_walk_99 : decode cX3_walk 99 = .ok (.return_, 1) := by decide +kernel
theorem dX4_init_0 : decode cX4_init 0 = .ok (.aload_n 0, 1) := by decide +kernel
theorem dX4_init_1 : decode cX4_init 1 = .ok (.invokespecial 3, 3) := by decide +kernel
theorem dX4_init_4 : decode cX4_init 4 = .ok (.aload_n 0, 1) := by decide +kernel
theorem dX4_init_5 : decode cX4_init 5 = .ok (.bipush 6, 2) := by decide +kernel
theorem dX4_init_7 : decode cX4_init 7 = .ok (.bipush 8, 2) := by decide +kernel
theorem dX4_init_9 : decode cX4_init 9 = .ok (.multianewarray 9 2, 4) := by decide +kernel
theorem dX4_init_13 : decode cX4_init 13 = .ok (.putfield 11, 3) := by decide +kernel
theorem dX4_init_16 : decode cX4_init 16 = .ok (.aload_n 0, 1) := by decide +kernel
theorem dX4_init_17 : decode cX4_init 17 = .ok (.bipush 16, 2) := by decide +kernel
theorem dX4_init_19 : decode cX4_init 19 = .ok (.bipush 48, 2) := by decide +kernel
theorem dX4_init_21 : decode cX4_init 21 = .ok (.multianewarray 9 2, 4) := by decide +kernel
theorem dX4_init_25 : decode cX4_init 25 = .ok (.putfield 16, 3) := by decide +kernel
theorem dX4_init_28 : decode cX4_init 28 = .ok (.aload_n 0, 1) := by decide +kernel
theorem dX4_init_29 : decode cX4_init 29 = .ok (.iconst 0, 1) := by decide +kernel
theorem dX4_init_30 : decode cX4_init 30 = .ok (.putfield 19, 3) := by decide +kernel
theorem dX4_init_33 : decode cX4_init 33 = .ok (.aload_n 0, 1) := by decide +kernel
theorem dX4_init_34 : decode cX4_init 34 = .ok (.iconst 0, 1) := by decide +kernel
theorem dX4_init_35 : decode cX4_init 35 = .ok (.putfield 23, 3) := by decide +kernel
theorem dX4_init_38 : decode cX4_init 38 = .ok (.return_, 1) := by decide +kernel
theorem dX4_kept_0 : decode cX4_kept 0 = .ok (.aload_n 0, 1) := by decide +kernel
theorem dX4_kept_1 : decode cX4_kept 1 = .ok (.getfield 23, 3) := by decide +kernel
theorem dX4_kept_4 : decode cX4_kept 4 = .ok (.ireturn, 1) := by decide +kernel
theorem dX4_countOf_0 : decode cX4_countOf 0 = .ok (.aload_n 0, 1) := by decide +kernel
theorem dX4_countOf_1 : decode cX4_countOf 1 = .ok (.getfield 11, 3) := by decide +kernel
theorem dX4_countOf_4 : decode cX4_countOf 4 = .ok (.iload_n 1, 1) := by decide +kernel
theorem dX4_countOf_5 : decode cX4_countOf 5 = .ok (.aaload, 1) := by decide +kernel
theorem dX4_countOf_6 : decode cX4_countOf 6 = .ok (.iload_n 2, 1) := by decide +kernel
theorem dX4_countOf_7 : decode cX4_countOf 7 = .ok (.iaload, 1) := by decide +kernel
theorem dX4_countOf_8 : decode cX4_countOf 8 = .ok (.ireturn, 1) := by decide +kernel
theorem dX4_learn_0 : decode cX4_learn 0 = .ok (.aload_n 0, 1) := by decide +kernel
theorem dX4_learn_1 : decode cX4_learn 1 = .ok (.getfield 16, 3) := by decide +kernel
theorem dX4_learn_4 : decode cX4_learn 4 = .ok (.aload_n 0, 1) := by decide +kernel
theorem dX4_learn_5 : decode cX4_learn 5 = .ok (.getfield 19, 3) := by decide +kernel
theorem dX4_learn_8 : decode cX4_learn 8 = .ok (.aaload, 1) := by decide +kernel
theorem dX4_learn_9 : decode cX4_learn 9 = .ok (.astore_n 3, 1) := by decide +kernel
theorem dX4_learn_10 : decode cX4_learn 10 = .ok (.aload_n 3, 1) := by decide +kernel
theorem dX4_learn_11 : decode cX4_learn 11 = .ok (.iconst 0, 1) := by decide +kernel
theorem dX4_learn_12 : decode cX4_learn 12 = .ok (.invokestatic 26, 3) := by decide +kernel
theorem dX4_learn_15 : decode cX4_learn 15 = .ok (.iconst 0, 1) := by decide +kernel
theorem dX4_learn_16 : decode cX4_learn 16 = .ok (.istore 4, 2) := by decide +kernel
theorem dX4_learn_18 : decode cX4_learn 18 = .ok (.iconst 0, 1) := by decide +kernel
theorem dX4_learn_19 : decode cX4_learn 19 = .ok (.istore 5, 2) := by decide +kernel
theorem dX4_learn_21 : decode cX4_learn 21 = .ok (.iload 5, 2) := by decide +kernel
theorem dX4_learn_23 : decode cX4_learn 23 = .ok (.aload_n 1, 1) := by decide +kernel
theorem dX4_learn_24 : decode cX4_learn 24 = .ok (.invokevirtual 32, 3) := by decide +kernel
theorem dX4_learn_27 : decode cX4_learn 27 = .ok (.if_icmp .ge 62, 3) := by decide +kernel
theorem dX4_learn_30 : decode cX4_learn 30 = .ok (.aload_n 1, 1) := by decide +kernel
theorem dX4_learn_31 : decode cX4_learn 31 = .ok (.iload 5, 2) := by decide +kernel
theorem dX4_learn_33 : decode cX4_learn 33 = .ok (.invokevirtual 38, 3) := by decide +kernel
theorem dX4_learn_36 : decode cX4_learn 36 = .ok (.istore 6, 2) := by decide +kernel
theorem dX4_learn_38 : decode cX4_learn 38 = .ok (.iload 6, 2) := by decide +kernel
theorem dX4_learn_40 : decode cX4_learn 40 = .ok (.iconst (-1), 1) := by decide +kernel
theorem dX4_learn_41 : decode cX4_learn 41 = .ok (.if_icmp .eq 42, 3) := by decide +kernel
theorem dX4_learn_44 : decode cX4_learn 44 = .ok (.aload_n 2, 1) := by decide +kernel
theorem dX4_learn_45 : decode cX4_learn 45 = .ok (.iload 5, 2) := by decide +kernel
theorem dX4_learn_47 : decode cX4_learn 47 = .ok (.invokevirtual 42, 3) := by decide +kernel
theorem dX4_learn_50 : decode cX4_learn 50 = .ok (.istore 7, 2) := by decide +kernel
theorem dX4_learn_52 : decode cX4_learn 52 = .ok (.aload_n 0, 1) := by decide +kernel
theorem dX4_learn_53 : decode cX4_learn 53 = .ok (.getfield 11, 3) := by decide +kernel
theorem dX4_learn_56 : decode cX4_learn 56 = .ok (.iload 7, 2) := by decide +kernel
theorem dX4_learn_58 : decode cX4_learn 58 = .ok (.aaload, 1) := by decide +kernel
theorem dX4_learn_59 : decode cX4_learn 59 = .ok (.iload 6, 2) := by decide +kernel
theorem dX4_learn_61 : decode cX4_learn 61 = .ok (.dup2, 1) := by decide +kernel
theorem dX4_learn_62 : decode cX4_learn 62 = .ok (.iaload, 1) := by decide +kernel
theorem dX4_learn_63 : decode cX4_learn 63 = .ok (.iconst 1, 1) := by decide +kernel
theorem dX4_learn_64 : decode cX4_learn 64 = .ok (.iadd, 1) := by decide +kernel
theorem dX4_learn_65 : decode cX4_learn 65 = .ok (.iastore, 1) := by decide +kernel
theorem dX4_learn_66 : decode cX4_learn 66 = .ok (.aload_n 3, 1) := by decide +kernel
theorem dX4_learn_67 : decode cX4_learn 67 = .ok (.iload 7, 2) := by decide +kernel
theorem dX4_learn_69 : decode cX4_learn 69 = .ok (.bipush 8, 2) := by decide +kernel
theorem dX4_learn_71 : decode cX4_learn 71 = .ok (.imul, 1) := by decide +kernel
theorem dX4_learn_72 : decode cX4_learn 72 = .ok (.iload 6, 2) := by decide +kernel
theorem dX4_learn_74 : decode cX4_learn 74 = .ok (.iadd, 1) := by decide +kernel
theorem dX4_learn_75 : decode cX4_learn 75 = .ok (.dup2, 1) := by decide +kernel
theorem dX4_learn_76 : decode cX4_learn 76 = .ok (.iaload, 1) := by decide +kernel
theorem dX4_learn_77 : decode cX4_learn 77 = .ok (.iconst 1, 1) := by decide +kernel
theorem dX4_learn_78 : decode cX4_learn 78 = .ok (.iadd, 1) := by decide +kernel
theorem dX4_learn_79 : decode cX4_learn 79 = .ok (.iastore, 1) := by decide +kernel
theorem dX4_learn_80 : decode cX4_learn 80 = .ok (.iinc 4 1, 3) := by decide +kernel
theorem dX4_learn_83 : decode cX4_learn 83 = .ok (.iinc 5 1, 3) := by decide +kernel
theorem dX4_learn_86 : decode cX4_learn 86 = .ok (.goto (-65), 3) := by decide +kernel
theorem dX4_learn_89 : decode cX4_learn 89 = .ok (.aload_n 0, 1) := by decide +kernel
theorem dX4_learn_90 : decode cX4_learn 90 = .ok (.aload_n 0, 1) := by decide +kernel
theorem dX4_learn_91 : decode cX4_learn 91 = .ok (.getfield 19, 3) := by decide +kernel
theorem dX4_learn_94 : decode cX4_learn 94 = .ok (.iconst 1, 1) := by decide +kernel
theorem dX4_learn_95 : decode cX4_learn 95 = .ok (.iadd, 1) := by decide +kernel
theorem dX4_learn_96 : decode cX4_learn 96 = .ok (.bipush 16, 2) := by decide +kernel
theorem dX4_learn_98 : decode cX4_learn 98 = .ok (.irem, 1) := by decide +kernel
theorem dX4_learn_99 : decode cX4_learn 99 = .ok (.putfield 19, 3) := by decide +kernel
theorem dX4_learn_102 : decode cX4_learn 102 = .ok (.aload_n 0, 1) := by decide +kernel
theorem dX4_learn_103 : decode cX4_learn 103 = .ok (.aload_n 0, 1) := by decide +kernel
theorem dX4_learn_104 : decode cX4_learn 104 = .ok (.getfield 23, 3) := by decide +kernel
theorem dX4_learn_107 : decode cX4_learn 107 = .ok (.iconst 1, 1) := by decide +kernel
theorem dX4_learn_108 : decode cX4_learn 108 = .ok (.iadd, 1) := by decide +kernel
theorem dX4_learn_109 : decode cX4_learn 109 = .ok (.bipush 16, 2) := by decide +kernel
theorem dX4_learn_111 : decode cX4_learn 111 = .ok (.invokestatic 47, 3) := by decide +kernel
theorem dX4_learn_114 : decode cX4_learn 114 = .ok (.putfield 23, 3) := by decide +kernel
theorem dX4_learn_117 : decode cX4_learn 117 = .ok (.iload 4, 2) := by decide +kernel
theorem dX4_learn_119 : decode cX4_learn 119 = .ok (.ireturn, 1) := by decide +kernel
theorem dX4_unlearn_0 : decode cX4_unlearn 0 = .ok (.aload_n 0, 1) := by decide +kernel
theorem dX4_unlearn_1 : decode cX4_unlearn 1 = .ok (.aload_n 0, 1) := by decide +kernel
theorem dX4_unlearn_2 : decode cX4_unlearn 2 = .ok (.getfield 19, 3) := by decide +kernel
theorem dX4_unlearn_5 : decode cX4_unlearn 5 = .ok (.bipush 16, 2) := by decide +kernel
theorem dX4_unlearn_7 : decode cX4_unlearn 7 = .ok (.iadd, 1) := by decide +kernel
theorem dX4_unlearn_8 : decode cX4_unlearn 8 = .ok (.iconst 1, 1) := by decide +kernel
theorem dX4_unlearn_9 : decode cX4_unlearn 9 = .ok (.isub, 1) := by decide +kernel
theorem dX4_unlearn_10 : decode cX4_unlearn 10 = .ok (.bipush 16, 2) := by decide +kernel
theorem dX4_unlearn_12 : decode cX4_unlearn 12 = .ok (.irem, 1) := by decide +kernel
theorem dX4_unlearn_13 : decode cX4_unlearn 13 = .ok (.putfield 19, 3) := by decide +kernel
theorem dX4_unlearn_16 : decode cX4_unlearn 16 = .ok (.aload_n 0, 1) := by decide +kernel
theorem dX4_unlearn_17 : decode cX4_unlearn 17 = .ok (.dup, 1) := by decide +kernel
theorem dX4_unlearn_18 : decode cX4_unlearn 18 = .ok (.getfield 23, 3) := by decide +kernel
theorem dX4_unlearn_21 : decode cX4_unlearn 21 = .ok (.iconst 1, 1) := by decide +kernel
theorem dX4_unlearn_22 : decode cX4_unlearn 22 = .ok (.isub, 1) := by decide +kernel
theorem dX4_unlearn_23 : decode cX4_unlearn 23 = .ok (.putfield 23, 3) := by decide +kernel
theorem dX4_unlearn_26 : decode cX4_unlearn 26 = .ok (.aload_n 0, 1) := by decide +kernel
theorem dX4_unlearn_27 : decode cX4_unlearn 27 = .ok (.getfield 16, 3) := by decide +kernel
theorem dX4_unlearn_30 : decode cX4_unlearn 30 = .ok (.aload_n 0, 1) := by decide +kernel
theorem dX4_unlearn_31 : decode cX4_unlearn 31 = .ok (.getfield 19, 3) := by decide +kernel
theorem dX4_unlearn_34 : decode cX4_unlearn 34 = .ok (.aaload, 1) := by decide +kernel
theorem dX4_unlearn_35 : decode cX4_unlearn 35 = .ok (.astore_n 1, 1) := by decide +kernel
theorem dX4_unlearn_36 : decode cX4_unlearn 36 = .ok (.iconst 0, 1) := by decide +kernel
theorem dX4_unlearn_37 : decode cX4_unlearn 37 = .ok (.istore_n 2, 1) := by decide +kernel
theorem dX4_unlearn_38 : decode cX4_unlearn 38 = .ok (.iconst 0, 1) := by decide +kernel
theorem dX4_unlearn_39 : decode cX4_unlearn 39 = .ok (.istore_n 3, 1) := by decide +kernel
theorem dX4_unlearn_40 : decode cX4_unlearn 40 = .ok (.iload_n 3, 1) := by decide +kernel
theorem dX4_unlearn_41 : decode cX4_unlearn 41 = .ok (.bipush 6, 2) := by decide +kernel
theorem dX4_unlearn_43 : decode cX4_unlearn 43 = .ok (.if_icmp .ge 55, 3) := by decide +kernel
theorem dX4_unlearn_46 : decode cX4_unlearn 46 = .ok (.iconst 0, 1) := by decide +kernel
theorem dX4_unlearn_47 : decode cX4_unlearn 47 = .ok (.istore 4, 2) := by decide +kernel
theorem dX4_unlearn_49 : decode cX4_unlearn 49 = .ok (.iload 4, 2) := by decide +kernel
theorem dX4_unlearn_51 : decode cX4_unlearn 51 = .ok (.bipush 8, 2) := by decide +kernel
theorem dX4_unlearn_53 : decode cX4_unlearn 53 = .ok (.if_icmp .ge 39, 3) := by decide +kernel
theorem dX4_unlearn_56 : decode cX4_unlearn 56 = .ok (.aload_n 1, 1) := by decide +kernel
theorem dX4_unlearn_57 : decode cX4_unlearn 57 = .ok (.iload_n 3, 1) := by decide +kernel
theorem dX4_unlearn_58 : decode cX4_unlearn 58 = .ok (.bipush 8, 2) := by decide +kernel
theorem dX4_unlearn_60 : decode cX4_unlearn 60 = .ok (.imul, 1) := by decide +kernel
theorem dX4_unlearn_61 : decode cX4_unlearn 61 = .ok (.iload 4, 2) := by decide +kernel
theorem dX4_unlearn_63 : decode cX4_unlearn 63 = .ok (.iadd, 1) := by decide +kernel
theorem dX4_unlearn_64 : decode cX4_unlearn 64 = .ok (.iaload, 1) := by decide +kernel
theorem dX4_unlearn_65 : decode cX4_unlearn 65 = .ok (.istore 5, 2) := by decide +kernel
theorem dX4_unlearn_67 : decode cX4_unlearn 67 = .ok (.aload_n 0, 1) := by decide +kernel
theorem dX4_unlearn_68 : decode cX4_unlearn 68 = .ok (.getfield 11, 3) := by decide +kernel
theorem dX4_unlearn_71 : decode cX4_unlearn 71 = .ok (.iload_n 3, 1) := by decide +kernel
theorem dX4_unlearn_72 : decode cX4_unlearn 72 = .ok (.aaload, 1) := by decide +kernel
theorem dX4_unlearn_73 : decode cX4_unlearn 73 = .ok (.iload 4, 2) := by decide +kernel
theorem dX4_unlearn_75 : decode cX4_unlearn 75 = .ok (.dup2, 1) := by decide +kernel
theorem dX4_unlearn_76 : decode cX4_unlearn 76 = .ok (.iaload, 1) := by decide +kernel
theorem dX4_unlearn_77 : decode cX4_unlearn 77 = .ok (.iload 5, 2) := by decide +kernel
theorem dX4_unlearn_79 : decode cX4_unlearn 79 = .ok (.isub, 1) := by decide +kernel
theorem dX4_unlearn_80 : decode cX4_unlearn 80 = .ok (.iastore, 1) := by decide +kernel
theorem dX4_unlearn_81 : decode cX4_unlearn 81 = .ok (.iload_n 2, 1) := by decide +kernel
theorem dX4_unlearn_82 : decode cX4_unlearn 82 = .ok (.iload 5, 2) := by decide +kernel
theorem dX4_unlearn_84 : decode cX4_unlearn 84 = .ok (.iadd, 1) := by decide +kernel
theorem dX4_unlearn_85 : decode cX4_unlearn 85 = .ok (.istore_n 2, 1) := by decide +kernel
theorem dX4_unlearn_86 : decode cX4_unlearn 86 = .ok (.iinc 4 1, 3) := by decide +kernel
theorem dX4_unlearn_89 : decode cX4_unlearn 89 = .ok (.goto (-40), 3) := by decide +kernel
theorem dX4_unlearn_92 : decode cX4_unlearn 92 = .ok (.iinc 3 1, 3) := by decide +kernel
theorem dX4_unlearn_95 : decode cX4_unlearn 95 = .ok (.goto (-55), 3) := by decide +kernel
theorem dX4_unlearn_98 : decode cX4_unlearn 98 = .ok (.iload_n 2, 1) := by decide +kernel
theorem dX4_unlearn_99 : decode cX4_unlearn 99 = .ok (.ireturn, 1) := by decide +kernel
theorem dX4_setCosts_0 : decode cX4_setCosts 0 = .ok (.iconst 0, 1) := by decide +kernel
theorem dX4_setCosts_1 : decode cX4_setCosts 1 = .ok (.istore_n 2, 1) := by decide +kernel
theorem dX4_setCosts_2 : decode cX4_setCosts 2 = .ok (.iconst 0, 1) := by decide +kernel
theorem dX4_setCosts_3 : decode cX4_setCosts 3 = .ok (.istore_n 3, 1) := by decide +kernel
theorem dX4_setCosts_4 : decode cX4_setCosts 4 = .ok (.iload_n 3, 1) := by decide +kernel
theorem dX4_setCosts_5 : decode cX4_setCosts 5 = .ok (.bipush 6, 2) := by decide +kernel
theorem dX4_setCosts_7 : decode cX4_setCosts 7 = .ok (.if_icmp .ge 65, 3) := by decide +kernel
theorem dX4_setCosts_10 : decode cX4_setCosts 10 = .ok (.aload_n 0, 1) := by decide +kernel
theorem dX4_setCosts_11 : decode cX4_setCosts 11 = .ok (.iload_n 3, 1) := by decide +kernel
theorem dX4_setCosts_12 : decode cX4_setCosts 12 = .ok (.invokevirtual 53, 3) := by decide +kernel
theorem dX4_setCosts_15 : decode cX4_setCosts 15 = .ok (.istore 4, 2) := by decide +kernel
theorem dX4_setCosts_17 : decode cX4_setCosts 17 = .ok (.iload 4, 2) := by decide +kernel
theorem dX4_setCosts_19 : decode cX4_setCosts 19 = .ok (.ifCond .le 47, 3) := by decide +kernel
theorem dX4_setCosts_22 : decode cX4_setCosts 22 = .ok (.iconst 0, 1) := by decide +kernel
theorem dX4_setCosts_23 : decode cX4_setCosts 23 = .ok (.istore 5, 2) := by decide +kernel
theorem dX4_setCosts_25 : decode cX4_setCosts 25 = .ok (.iload 5, 2) := by decide +kernel
theorem dX4_setCosts_27 : decode cX4_setCosts 27 = .ok (.bipush 8, 2) := by decide +kernel
theorem dX4_setCosts_29 : decode cX4_setCosts 29 = .ok (.if_icmp .ge 34, 3) := by decide +kernel
theorem dX4_setCosts_32 : decode cX4_setCosts 32 = .ok (.aload_n 1, 1) := by decide +kernel
theorem dX4_setCosts_33 : decode cX4_setCosts 33 = .ok (.iload_n 3, 1) := by decide +kernel
theorem dX4_setCosts_34 : decode cX4_setCosts 34 = .ok (.iload 5, 2) := by decide +kernel
theorem dX4_setCosts_36 : decode cX4_setCosts 36 = .ok (.bipush 50, 2) := by decide +kernel
theorem dX4_setCosts_38 : decode cX4_setCosts 38 = .ok (.iload 4, 2) := by decide +kernel
theorem dX4_setCosts_40 : decode cX4_setCosts 40 = .ok (.aload_n 0, 1) := by decide +kernel
theorem dX4_setCosts_41 : decode cX4_setCosts 41 = .ok (.getfield 11, 3) := by decide +kernel
theorem dX4_setCosts_44 : decode cX4_setCosts 44 = .ok (.iload_n 3, 1) := by decide +kernel
theorem dX4_setCosts_45 : decode cX4_setCosts 45 = .ok (.aaload, 1) := by decide +kernel
theorem dX4_setCosts_46 : decode cX4_setCosts 46 = .ok (.iload 5, 2) := by decide +kernel
theorem dX4_setCosts_48 : decode cX4_setCosts 48 = .ok (.iaload, 1) := by decide +kernel
theorem dX4_setCosts_49 : decode cX4_setCosts 49 = .ok (.isub, 1) := by decide +kernel
theorem dX4_setCosts_50 : decode cX4_setCosts 50 = .ok (.imul, 1) := by decide +kernel
theorem dX4_setCosts_51 : decode cX4_setCosts 51 = .ok (.iload 4, 2) := by decide +kernel
theorem dX4_setCosts_53 : decode cX4_setCosts 53 = .ok (.idiv, 1) := by decide +kernel
theorem dX4_setCosts_54 : decode cX4_setCosts 54 = .ok (.invokevirtual 56, 3) := by decide +kernel
theorem dX4_setCosts_57 : decode cX4_setCosts 57 = .ok (.iinc 5 1, 3) := by decide +kernel
theorem dX4_setCosts_60 : decode cX4_setCosts 60 = .ok (.goto (-35), 3) := by decide +kernel
theorem dX4_setCosts_63 : decode cX4_setCosts 63 = .ok (.iinc 2 1, 3) := by decide +kernel
theorem dX4_setCosts_66 : decode cX4_setCosts 66 = .ok (.iinc 3 1, 3) := by decide +kernel
theorem dX4_setCosts_69 : decode cX4_setCosts 69 = .ok (.goto (-65), 3) := by decide +kernel
theorem dX4_setCosts_72 : decode cX4_setCosts 72 = .ok (.iload_n 2, 1) := by decide +kernel
theorem dX4_setCosts_73 : decode cX4_setCosts 73 = .ok (.ireturn, 1) := by decide +kernel
theorem dX4_allOf_0 : decode cX4_allOf 0 = .ok (.iconst 0, 1) := by decide +kernel
theorem dX4_allOf_1 : decode cX4_allOf 1 = .ok (.istore_n 2, 1) := by decide +kernel
theorem dX4_allOf_2 : decode cX4_allOf 2 = .ok (.iconst 0, 1) := by decide +kernel
theorem dX4_allOf_3 : decode cX4_allOf 3 = .ok (.istore_n 3, 1) := by decide +kernel
theorem dX4_allOf_4 : decode cX4_allOf 4 = .ok (.iload_n 3, 1) := by decide +kernel
theorem dX4_allOf_5 : decode cX4_allOf 5 = .ok (.bipush 8, 2) := by decide +kernel
theorem dX4_allOf_7 : decode cX4_allOf 7 = .ok (.if_icmp .ge 20, 3) := by decide +kernel
theorem dX4_allOf_10 : decode cX4_allOf 10 = .ok (.iload_n 2, 1) := by decide +kernel
theorem dX4_allOf_11 : decode cX4_allOf 11 = .ok (.aload_n 0, 1) := by decide +kernel
theorem dX4_allOf_12 : decode cX4_allOf 12 = .ok (.getfield 11, 3) := by decide +kernel
theorem dX4_allOf_15 : decode cX4_allOf 15 = .ok (.iload_n 1, 1) := by decide +kernel
theorem dX4_allOf_16 : decode cX4_allOf 16 = .ok (.aaload, 1) := by decide +kernel
theorem dX4_allOf_17 : decode cX4_allOf 17 = .ok (.iload_n 3, 1) := by decide +kernel
theorem dX4_allOf_18 : decode cX4_allOf 18 = .ok (.iaload, 1) := by decide +kernel
theorem dX4_allOf_19 : decode cX4_allOf 19 = .ok (.iadd, 1) := by decide +kernel
theorem dX4_allOf_20 : decode cX4_allOf 20 = .ok (.istore_n 2, 1) := by decide +kernel
theorem dX4_allOf_21 : decode cX4_allOf 21 = .ok (.iinc 3 1, 3) := by decide +kernel
theorem dX4_allOf_24 : decode cX4_allOf 24 = .ok (.goto (-20), 3) := by decide +kernel
theorem dX4_allOf_27 : decode cX4_allOf 27 = .ok (.iload_n 2, 1) := by decide +kernel
theorem dX4_allOf_28 : decode cX4_allOf 28 = .ok (.ireturn, 1) := by decide +kernel
theorem dX5_init_0 : decode cX5_init 0 = .ok (.aload_n 0, 1) := by decide +kernel
theorem dX5_init_1 : decode cX5_init 1 = .ok (.invokespecial 3, 3) := by decide +kernel
theorem dX5_init_4 : decode cX5_init 4 = .ok (.aload_n 0, 1) := by decide +kernel
theorem dX5_init_5 : decode cX5_init 5 = .ok (.bipush 16, 2) := by decide +kernel
theorem dX5_init_7 : decode cX5_init 7 = .ok (.iconst 4, 1) := by decide +kernel
theorem dX5_init_8 : decode cX5_init 8 = .ok (.multianewarray 9 2, 4) := by decide +kernel
theorem dX5_init_12 : decode cX5_init 12 = .ok (.putfield 11, 3) := by decide +kernel
theorem dX5_init_15 : decode cX5_init 15 = .ok (.aload_n 0, 1) := by decide +kernel
theorem dX5_init_16 : decode cX5_init 16 = .ok (.bipush 16, 2) := by decide +kernel
theorem dX5_init_18 : decode cX5_init 18 = .ok (.newarray .int, 2) := by decide +kernel
theorem dX5_init_20 : decode cX5_init 20 = .ok (.putfield 16, 3) := by decide +kernel
theorem dX5_init_23 : decode cX5_init 23 = .ok (.aload_n 0, 1) := by decide +kernel
theorem dX5_init_24 : decode cX5_init 24 = .ok (.bipush 8, 2) := by decide +kernel
theorem dX5_init_26 : decode cX5_init 26 = .ok (.newarray .int, 2) := by decide +kernel
theorem dX5_init_28 : decode cX5_init 28 = .ok (.putfield 20, 3) := by decide +kernel
theorem dX5_init_31 : decode cX5_init 31 = .ok (.aload_n 0, 1) := by decide +kernel
theorem dX5_init_32 : decode cX5_init 32 = .ok (.bipush 9, 2) := by decide +kernel
theorem dX5_init_34 : decode cX5_init 34 = .ok (.bipush 9, 2) := by decide +kernel
theorem dX5_init_36 : decode cX5_init 36 = .ok (.multianewarray 9 2, 4) := by decide +kernel
theorem dX5_init_40 : decode cX5_init 40 = .ok (.putfield 23, 3) := by decide +kernel
theorem dX5_init_43 : decode cX5_init 43 = .ok (.aload_n 0, 1) := by decide +kernel
theorem dX5_init_44 : decode cX5_init 44 = .ok (.iconst 0, 1) := by decide +kernel
theorem dX5_init_45 : decode cX5_init 45 = .ok (.putfield 26, 3) := by decide +kernel
theorem dX5_init_48 : decode cX5_init 48 = .ok (.return_, 1) := by decide +kernel
theorem dX5_words_0 : decode cX5_words 0 = .ok (.aload_n 0, 1) := by decide +kernel
theorem dX5_words_1 : decode cX5_words 1 = .ok (.getfield 26, 3) := by decide +kernel
theorem dX5_words_4 : decode cX5_words 4 = .ok (.ireturn, 1) := by decide +kernel
theorem dX5_waysOf_0 : decode cX5_waysOf 0 = .ok (.aload_n 0, 1) := by decide +kernel
theorem dX5_waysOf_1 : decode cX5_waysOf 1 = .ok (.getfield 20, 3) := by decide +kernel
theorem dX5_waysOf_4 : decode cX5_waysOf 4 = .ok (.iload_n 1, 1) := by decide +kernel
theorem dX5_waysOf_5 : decode cX5_waysOf 5 = .ok (.iaload, 1) := by decide +kernel
theorem dX5_waysOf_6 : decode cX5_waysOf 6 = .ok (.ireturn, 1) := by decide +kernel
theorem dX5_lengthOf_0 : decode cX5_lengthOf 0 = .ok (.aload_n 0, 1) := by decide +kernel
theorem dX5_lengthOf_1 : decode cX5_lengthOf 1 = .ok (.getfield 16, 3) := by decide +kernel
theorem dX5_lengthOf_4 : decode cX5_lengthOf 4 = .ok (.iload_n 1, 1) := by decide +kernel
theorem dX5_lengthOf_5 : decode cX5_lengthOf 5 = .ok (.iconst 2, 1) := by decide +kernel
theorem dX5_lengthOf_6 : decode cX5_lengthOf 6 = .ok (.imul, 1) := by decide +kernel
theorem dX5_lengthOf_7 : decode cX5_lengthOf 7 = .ok (.iload_n 2, 1) := by decide +kernel
theorem dX5_lengthOf_8 : decode cX5_lengthOf 8 = .ok (.iadd, 1) := by decide +kernel
theorem dX5_lengthOf_9 : decode cX5_lengthOf 9 = .ok (.iaload, 1) := by decide +kernel
theorem dX5_lengthOf_10 : decode cX5_lengthOf 10 = .ok (.ireturn, 1) := by decide +kernel
theorem dX5_soundOf_0 : decode cX5_soundOf 0 = .ok (.aload_n 0, 1) := by decide +kernel
theorem dX5_soundOf_1 : decode cX5_soundOf 1 = .ok (.getfield 11, 3) := by decide +kernel
theorem dX5_soundOf_4 : decode cX5_soundOf 4 = .ok (.iload_n 1, 1) := by decide +kernel
theorem dX5_soundOf_5 : decode cX5_soundOf 5 = .ok (.iconst 2, 1) := by decide +kernel
theorem dX5_soundOf_6 : decode cX5_soundOf 6 = .ok (.imul, 1) := by decide +kernel
theorem dX5_soundOf_7 : decode cX5_soundOf 7 = .ok (.iload_n 2, 1) := by decide +kernel
theorem dX5_soundOf_8 : decode cX5_soundOf 8 = .ok (.iadd, 1) := by decide +kernel
theorem dX5_soundOf_9 : decode cX5_soundOf 9 = .ok (.aaload, 1) := by decide +kernel
theorem dX5_soundOf_10 : decode cX5_soundOf 10 = .ok (.iload_n 3, 1) := by decide +kernel
theorem dX5_soundOf_11 : decode cX5_soundOf 11 = .ok (.iaload, 1) := by decide +kernel
theorem dX5_soundOf_12 : decode cX5_soundOf 12 = .ok (.ireturn, 1) := by decide +kernel
theorem dX5_addWord_0 : decode cX5_addWord 0 = .ok (.aload_n 0, 1) := by decide +kernel
theorem dX5_addWord_1 : decode cX5_addWord 1 = .ok (.getfield 26, 3) := by decide +kernel
theorem dX5_addWord_4 : decode cX5_addWord 4 = .ok (.bipush 8, 2) := by decide +kernel
theorem dX5_addWord_6 : decode cX5_addWord 6 = .ok (.if_icmp .ge 13, 3) := by decide +kernel
theorem dX5_addWord_9 : decode cX5_addWord 9 = .ok (.aload_n 0, 1) := by decide +kernel
theorem dX5_addWord_10 : decode cX5_addWord 10 = .ok (.dup, 1) := by decide +kernel
theorem dX5_addWord_11 : decode cX5_addWord 11 = .ok (.getfield 26, 3) := by decide +kernel
theorem dX5_addWord_14 : decode cX5_addWord 14 = .ok (.iconst 1, 1) := by decide +kernel
theorem dX5_addWord_15 : decode cX5_addWord 15 = .ok (.iadd, 1) := by decide +kernel
theorem dX5_addWord_16 : decode cX5_addWord 16 = .ok (.putfield 26, 3) := by decide +kernel
theorem dX5_addWord_19 : decode cX5_addWord 19 = .ok (.return_, 1) := by decide +kernel
theorem dX5_addWay_0 : decode cX5_addWay 0 = .ok (.aload_n 0, 1) := by decide +kernel
theorem dX5_addWay_1 : decode cX5_addWay 1 = .ok (.getfield 20, 3) := by decide +kernel
theorem dX5_addWay_4 : decode cX5_addWay 4 = .ok (.iload_n 1, 1) := by decide +kernel
theorem dX5_addWay_5 : decode cX5_addWay 5 = .ok (.iaload, 1) := by decide +kernel
theorem dX5_addWay_6 : decode cX5_addWay 6 = .ok (.iconst 2, 1) := by decide +kernel
theorem dX5_addWay_7 : decode cX5_addWay 7 = .ok (.if_icmp .lt 4, 3) := by decide +kernel
theorem dX5_addWay_10 : decode cX5_addWay 10 = .ok (.return_, 1) := by decide +kernel
theorem dX5_addWay_11 : decode cX5_addWay 11 = .ok (.iload_n 1, 1) := by decide +kernel
theorem dX5_addWay_12 : decode cX5_addWay 12 = .ok (.iconst 2, 1) := by decide +kernel
theorem dX5_addWay_13 : decode cX5_addWay 13 = .ok (.imul, 1) := by decide +kernel
theorem dX5_addWay_14 : decode cX5_addWay 14 = .ok (.aload_n 0, 1) := by decide +kernel
theorem dX5_addWay_15 : decode cX5_addWay 15 = .ok (.getfield 20, 3) := by decide +kernel
theorem dX5_addWay_18 : decode cX5_addWay 18 = .ok (.iload_n 1, 1) := by decide +kernel
theorem dX5_addWay_19 : decode cX5_addWay 19 = .ok (.iaload, 1) := by decide +kernel
theorem dX5_addWay_20 : decode cX5_addWay 20 = .ok (.iadd, 1) := by decide +kernel
theorem dX5_addWay_21 : decode cX5_addWay 21 = .ok (.istore 6, 2) := by decide +kernel
theorem dX5_addWay_23 : decode cX5_addWay 23 = .ok (.aload_n 0, 1) := by decide +kernel
theorem dX5_addWay_24 : decode cX5_addWay 24 = .ok (.iload 6, 2) := by decide +kernel
theorem dX5_addWay_26 : decode cX5_addWay 26 = .ok (.iload_n 2, 1) := by decide +kernel
theorem dX5_addWay_27 : decode cX5_addWay 27 = .ok (.invokevirtual 30, 3) := by decide +kernel
theorem dX5_addWay_30 : decode cX5_addWay 30 = .ok (.aload_n 0, 1) := by decide +kernel
theorem dX5_addWay_31 : decode cX5_addWay 31 = .ok (.iload 6, 2) := by decide +kernel
theorem dX5_addWay_33 : decode cX5_addWay 33 = .ok (.iload_n 3, 1) := by decide +kernel
theorem dX5_addWay_34 : decode cX5_addWay 34 = .ok (.invokevirtual 30, 3) := by decide +kernel
theorem dX5_addWay_37 : decode cX5_addWay 37 = .ok (.aload_n 0, 1) := by decide +kernel
theorem dX5_addWay_38 : decode cX5_addWay 38 = .ok (.iload 6, 2) := by decide +kernel
theorem dX5_addWay_40 : decode cX5_addWay 40 = .ok (.iload 4, 2) := by decide +kernel
theorem dX5_addWay_42 : decode cX5_addWay 42 = .ok (.invokevirtual 30, 3) := by decide +kernel
theorem dX5_addWay_45 : decode cX5_addWay 45 = .ok (.aload_n 0, 1) := by decide +kernel
theorem dX5_addWay_46 : decode cX5_addWay 46 = .ok (.iload 6, 2) := by decide +kernel
theorem dX5_addWay_48 : decode cX5_addWay 48 = .ok (.iload 5, 2) := by decide +kernel
theorem dX5_addWay_50 : decode cX5_addWay 50 = .ok (.invokevirtual 30, 3) := by decide +kernel
theorem dX5_addWay_53 : decode cX5_addWay 53 = .ok (.aload_n 0, 1) := by decide +kernel
theorem dX5_addWay_54 : decode cX5_addWay 54 = .ok (.getfield 20, 3) := by decide +kernel
theorem dX5_addWay_57 : decode cX5_addWay 57 = .ok (.iload_n 1, 1) := by decide +kernel
theorem dX5_addWay_58 : decode cX5_addWay 58 = .ok (.dup2, 1) := by decide +kernel
theorem dX5_addWay_59 : decode cX5_addWay 59 = .ok (.iaload, 1) := by decide +kernel
theorem dX5_addWay_60 : decode cX5_addWay 60 = .ok (.iconst 1, 1) := by decide +kernel
theorem dX5_addWay_61 : decode cX5_addWay 61 = .ok (.iadd, 1) := by decide +kernel
theorem dX5_addWay_62 : decode cX5_addWay 62 = .ok (.iastore, 1) := by decide +kernel
theorem dX5_addWay_63 : decode cX5_addWay 63 = .ok (.return_, 1) := by decide +kernel
theorem dX5_append_0 : decode cX5_append 0 = .ok (.iload_n 2, 1) := by decide +kernel
theorem dX5_append_1 : decode cX5_append 1 = .ok (.iconst (-1), 1) := by decide +kernel
theorem dX5_append_2 : decode cX5_append 2 = .ok (.if_icmp .eq 37, 3) := by decide +kernel
theorem dX5_append_5 : decode cX5_append 5 = .ok (.aload_n 0, 1) := by decide +kernel
theorem dX5_append_6 : decode cX5_append 6 = .ok (.getfield 16, 3) := by decide +kernel
theorem dX5_append_9 : decode cX5_append 9 = .ok (.iload_n 1, 1) := by decide +kernel
theorem dX5_append_10 : decode cX5_append 10 = .ok (.iaload, 1) := by decide +kernel
theorem dX5_append_11 : decode cX5_append 11 = .ok (.iconst 4, 1) := by decide +kernel
theorem dX5_append_12 : decode cX5_append 12 = .ok (.if_icmp .ge 27, 3) := by decide +kernel
theorem dX5_append_15 : decode cX5_append 15 = .ok (.aload_n 0, 1) := by decide +kernel
theorem dX5_append_16 : decode cX5_append 16 = .ok (.getfield 11, 3) := by decide +kernel
theorem dX5_append_19 : decode cX5_append 19 = .ok (.iload_n 1, 1) := by decide +kernel
theorem dX5_append_20 : decode cX5_append 20 = .ok (.aaload, 1) := by decide +kernel
theorem dX5_append_21 : decode cX5_append 21 = .ok (.aload_n 0, 1) := by decide +kernel
theorem dX5_append_22 : decode cX5_append 22 = .ok (.getfield 16, 3) := by decide +kernel
theorem dX5_append_25 : decode cX5_append 25 = .ok (.iload_n 1, 1) := by decide +kernel
theorem dX5_append_26 : decode cX5_append 26 = .ok (.iaload, 1) := by decide +kernel
theorem dX5_append_27 : decode cX5_append 27 = .ok (.iload_n 2, 1) := by decide +kernel
theorem dX5_append_28 : decode cX5_append 28 = .ok (.iastore, 1) := by decide +kernel
theorem dX5_append_29 : decode cX5_append 29 = .ok (.aload_n 0, 1) := by decide +kernel
theorem dX5_append_30 : decode cX5_append 30 = .ok (.getfield 16, 3) := by decide +kernel
theorem dX5_append_33 : decode cX5_append 33 = .ok (.iload_n 1, 1) := by decide +kernel
theorem dX5_append_34 : decode cX5_append 34 = .ok (.dup2, 1) := by decide +kernel
theorem dX5_append_35 : decode cX5_append 35 = .ok (.iaload, 1) := by decide +kernel
theorem dX5_append_36 : decode cX5_append 36 = .ok (.iconst 1, 1) := by decide +kernel
theorem dX5_append_37 : decode cX5_append 37 = .ok (.iadd, 1) := by decide +kernel
theorem dX5_append_38 : decode cX5_append 38 = .ok (.iastore, 1) := by decide +kernel
theorem dX5_append_39 : decode cX5_append 39 = .ok (.return_, 1) := by decide +kernel
theorem dX5_grammarOf_0 : decode cX5_grammarOf 0 = .ok (.aload_n 0, 1) := by decide +kernel
theorem dX5_grammarOf_1 : decode cX5_grammarOf 1 = .ok (.getfield 23, 3) := by decide +kernel
theorem dX5_grammarOf_4 : decode cX5_grammarOf 4 = .ok (.iload_n 1, 1) := by decide +kernel
theorem dX5_grammarOf_5 : decode cX5_grammarOf 5 = .ok (.iconst 1, 1) := by decide +kernel
theorem dX5_grammarOf_6 : decode cX5_grammarOf 6 = .ok (.iadd, 1) := by decide +kernel
theorem dX5_grammarOf_7 : decode cX5_grammarOf 7 = .ok (.aaload, 1) := by decide +kernel
theorem dX5_grammarOf_8 : decode cX5_grammarOf 8 = .ok (.iload_n 2, 1) := by decide +kernel
theorem dX5_grammarOf_9 : decode cX5_grammarOf 9 = .ok (.iconst 1, 1) := by decide +kernel
theorem dX5_grammarOf_10 : decode cX5_grammarOf 10 = .ok (.iadd, 1) := by decide +kernel
theorem dX5_grammarOf_11 : decode cX5_grammarOf 11 = .ok (.iaload, 1) := by decide +kernel
theorem dX5_grammarOf_12 : decode cX5_grammarOf 12 = .ok (.ireturn, 1) := by decide +kernel
theorem dX5_setGrammar_0 : decode cX5_setGrammar 0 = .ok (.aload_n 0, 1) := by decide +kernel
theorem dX5_setGrammar_1 : decode cX5_setGrammar 1 = .ok (.getfield 23, 3) := by decide +kernel
theorem dX5_setGrammar_4 : decode cX5_setGrammar 4 = .ok (.iload_n 1, 1) := by decide +kernel
theorem dX5_setGrammar_5 : decode cX5_setGrammar 5 = .ok (.iconst 1, 1) := by decide +kernel
theorem dX5_setGrammar_6 : decode cX5_setGrammar 6 = .ok (.iadd, 1) := by decide +kernel
theorem dX5_setGrammar_7 : decode cX5_setGrammar 7 = .ok (.aaload, 1) := by decide +kernel
theorem dX5_setGrammar_8 : decode cX5_setGrammar 8 = .ok (.iload_n 2, 1) := by decide +kernel
theorem dX5_setGrammar_9 : decode cX5_setGrammar 9 = .ok (.iconst 1, 1) := by decide +kernel
theorem dX5_setGrammar_10 : decode cX5_setGrammar 10 = .ok (.iadd, 1) := by decide +kernel
theorem dX5_setGrammar_11 : decode cX5_setGrammar 11 = .ok (.iload_n 3, 1) := by decide +kernel
theorem dX5_setGrammar_12 : decode cX5_setGrammar 12 = .ok (.iastore, 1) := by decide +kernel
theorem dX5_setGrammar_13 : decode cX5_setGrammar 13 = .ok (.return_, 1) := by decide +kernel
theorem dX5_joint_0 : decode cX5_joint 0 = .ok (.aload_n 0, 1) := by decide +kernel
theorem dX5_joint_1 : decode cX5_joint 1 = .ok (.iload_n 1, 1) := by decide +kernel
theorem dX5_joint_2 : decode cX5_joint 2 = .ok (.iload_n 2, 1) := by decide +kernel
theorem dX5_joint_3 : decode cX5_joint 3 = .ok (.invokevirtual 34, 3) := by decide +kernel
theorem dX5_joint_6 : decode cX5_joint 6 = .ok (.istore_n 3, 1) := by decide +kernel
theorem dX5_joint_7 : decode cX5_joint 7 = .ok (.iload_n 3, 1) := by decide +kernel
theorem dX5_joint_8 : decode cX5_joint 8 = .ok (.iconst (-1), 1) := by decide +kernel
theorem dX5_joint_9 : decode cX5_joint 9 = .ok (.if_icmp .ne 8, 3) := by decide +kernel
theorem dX5_joint_12 : decode cX5_joint 12 = .ok (.ldc 38, 2) := by decide +kernel
theorem dX5_joint_14 : decode cX5_joint 14 = .ok (.goto 4, 3) := by decide +kernel
theorem dX5_joint_17 : decode cX5_joint 17 = .ok (.iload_n 3, 1) := by decide +kernel
theorem dX5_joint_18 : decode cX5_joint 18 = .ok (.ireturn, 1) := by decide +kernel
theorem dX6_init_0 : decode cX6_init 0 = .ok (.aload_n 0, 1) := by decide +kernel
theorem dX6_init_1 : decode cX6_init 1 = .ok (.invokespecial 3, 3) := by decide +kernel
theorem dX6_init_4 : decode cX6_init 4 = .ok (.aload_n 0, 1) := by decide +kernel
theorem dX6_init_5 : decode cX6_init 5 = .ok (.bipush 40, 2) := by decide +kernel
theorem dX6_init_7 : decode cX6_init 7 = .ok (.bipush 8, 2) := by decide +kernel
theorem dX6_init_9 : decode cX6_init 9 = .ok (.multianewarray 9 2, 4) := by decide +kernel
theorem dX6_init_13 : decode cX6_init 13 = .ok (.putfield 11, 3) := by decide +kernel
theorem dX6_init_16 : decode cX6_init 16 = .ok (.aload_n 0, 1) := by decide +kernel
theorem dX6_init_17 : decode cX6_init 17 = .ok (.bipush 16, 2) := by decide +kernel
theorem dX6_init_19 : decode cX6_init 19 = .ok (.iconst 4, 1) := by decide +kernel
theorem dX6_init_20 : decode cX6_init 20 = .ok (.multianewarray 9 2, 4) := by decide +kernel
theorem dX6_init_24 : decode cX6_init 24 = .ok (.putfield 16, 3) := by decide +kernel
theorem dX6_init_27 : decode cX6_init 27 = .ok (.aload_n 0, 1) := by decide +kernel
theorem dX6_init_28 : decode cX6_init 28 = .ok (.bipush 41, 2) := by decide +kernel
theorem dX6_init_30 : decode cX6_init 30 = .ok (.newarray .int, 2) := by decide +kernel
theorem dX6_init_32 : decode cX6_init 32 = .ok (.putfield 19, 3) := by decide +kernel
theorem dX6_init_35 : decode cX6_init 35 = .ok (.aload_n 0, 1) := by decide +kernel
theorem dX6_init_36 : decode cX6_init 36 = .ok (.new 23, 3) := by decide +kernel
theorem dX6_init_39 : decode cX6_init 39 = .ok (.dup, 1) := by decide +kernel
theorem dX6_init_40 : decode cX6_init 40 = .ok (.invokespecial 25, 3) := by decide +kernel
theorem dX6_init_43 : decode cX6_init 43 = .ok (.putfield 26, 3) := by decide +kernel
theorem dX6_init_46 : decode cX6_init 46 = .ok (.aload_n 0, 1) := by decide +kernel
theorem dX6_init_47 : decode cX6_init 47 = .ok (.new 30, 3) := by decide +kernel
theorem dX6_init_50 : decode cX6_init 50 = .ok (.dup, 1) := by decide +kernel
theorem dX6_init_51 : decode cX6_init 51 = .ok (.bipush 40, 2) := by decide +kernel
theorem dX6_init_53 : decode cX6_init 53 = .ok (.invokespecial 32, 3) := by decide +kernel
theorem dX6_init_56 : decode cX6_init 56 = .ok (.putfield 35, 3) := by decide +kernel
theorem dX6_init_59 : decode cX6_init 59 = .ok (.aload_n 0, 1) := by decide +kernel
theorem dX6_init_60 : decode cX6_init 60 = .ok (.ldc 39, 2) := by decide +kernel
theorem dX6_init_62 : decode cX6_init 62 = .ok (.putfield 40, 3) := by decide +kernel
theorem dX6_init_65 : decode cX6_init 65 = .ok (.aload_n 0, 1) := by decide +kernel
theorem dX6_init_66 : decode cX6_init 66 = .ok (.iconst 0, 1) := by decide +kernel
theorem dX6_init_67 : decode cX6_init 67 = .ok (.putfield 44, 3) := by decide +kernel
theorem dX6_init_70 : decode cX6_init 70 = .ok (.return_, 1) := by decide +kernel
theorem dX6_cheapest_0 : decode cX6_cheapest 0 = .ok (.aload_n 0, 1) := by decide +kernel
theorem dX6_cheapest_1 : decode cX6_cheapest 1 = .ok (.getfield 40, 3) := by decide +kernel
theorem dX6_cheapest_4 : decode cX6_cheapest 4 = .ok (.ireturn, 1) := by decide +kernel
theorem dX6_row_0 : decode cX6_row 0 = .ok (.aload_n 0, 1) := by decide +kernel
theorem dX6_row_1 : decode cX6_row 1 = .ok (.getfield 35, 3) := by decide +kernel
theorem dX6_row_4 : decode cX6_row 4 = .ok (.areturn, 1) := by decide +kernel
theorem dX6_end_0 : decode cX6_end 0 = .ok (.aload_n 0, 1) := by decide +kernel
theorem dX6_end_1 : decode cX6_end 1 = .ok (.iconst 0, 1) := by decide +kernel
theorem dX6_end_2 : decode cX6_end 2 = .ok (.putfield 44, 3) := by decide +kernel
theorem dX6_end_5 : decode cX6_end 5 = .ok (.return_, 1) := by decide +kernel
theorem dX6_find_0 : decode cX6_find 0 = .ok (.aload_n 0, 1) := by decide +kernel
theorem dX6_find_1 : decode cX6_find 1 = .ok (.getfield 44, 3) := by decide +kernel
theorem dX6_find_4 : decode cX6_find 4 = .ok (.ifCond .ne 60, 3) := by decide +kernel
theorem dX6_find_7 : decode cX6_find 7 = .ok (.aload_n 0, 1) := by decide +kernel
theorem dX6_find_8 : decode cX6_find 8 = .ok (.aload_n 1, 1) := by decide +kernel
theorem dX6_find_9 : decode cX6_find 9 = .ok (.aload_n 2, 1) := by decide +kernel
theorem dX6_find_10 : decode cX6_find 10 = .ok (.invokevirtual 48, 3) := by decide +kernel
theorem dX6_find_13 : decode cX6_find 13 = .ok (.aload_n 0, 1) := by decide +kernel
theorem dX6_find_14 : decode cX6_find 14 = .ok (.getfield 35, 3) := by decide +kernel
theorem dX6_find_17 : decode cX6_find 17 = .ok (.invokevirtual 52, 3) := by decide +kernel
theorem dX6_find_20 : decode cX6_find 20 = .ok (.aload_n 0, 1) := by decide +kernel
theorem dX6_find_21 : decode cX6_find 21 = .ok (.aload_n 1, 1) := by decide +kernel
theorem dX6_find_22 : decode cX6_find 22 = .ok (.invokevirtual 55, 3) := by decide +kernel
theorem dX6_find_25 : decode cX6_find 25 = .ok (.ifCond .le 14, 3) := by decide +kernel
theorem dX6_find_28 : decode cX6_find 28 = .ok (.aload_n 0, 1) := by decide +kernel
theorem dX6_find_29 : decode cX6_find 29 = .ok (.aload_n 2, 1) := by decide +kernel
theorem dX6_find_30 : decode cX6_find 30 = .ok (.iconst (-1), 1) := by decide +kernel
theorem dX6_find_31 : decode cX6_find 31 = .ok (.iconst 0, 1) := by decide +kernel
theorem dX6_find_32 : decode cX6_find 32 = .ok (.iconst (-1), 1) := by decide +kernel
theorem dX6_find_33 : decode cX6_find 33 = .ok (.invokevirtual 61, 3) := by decide +kernel
theorem dX6_find_36 : decode cX6_find 36 = .ok (.goto 5, 3) := by decide +kernel
theorem dX6_find_39 : decode cX6_find 39 = .ok (.ldc 39, 2) := by decide +kernel
theorem dX6_find_41 : decode cX6_find 41 = .ok (.putfield 40, 3) := by decide +kernel
theorem dX6_find_44 : decode cX6_find 44 = .ok (.aload_n 0, 1) := by decide +kernel
theorem dX6_find_45 : decode cX6_find 45 = .ok (.getfield 40, 3) := by decide +kernel
theorem dX6_find_48 : decode cX6_find 48 = .ok (.ldc 39, 2) := by decide +kernel
theorem dX6_find_50 : decode cX6_find 50 = .ok (.if_icmp .ge 9, 3) := by decide +kernel
theorem dX6_find_53 : decode cX6_find 53 = .ok (.aload_n 0, 1) := by decide +kernel
theorem dX6_find_54 : decode cX6_find 54 = .ok (.aload_n 1, 1) := by decide +kernel
theorem dX6_find_55 : decode cX6_find 55 = .ok (.aload_n 2, 1) := by decide +kernel
theorem dX6_find_56 : decode cX6_find 56 = .ok (.invokevirtual 65, 3) := by decide +kernel
theorem dX6_find_59 : decode cX6_find 59 = .ok (.aload_n 0, 1) := by decide +kernel
theorem dX6_find_60 : decode cX6_find 60 = .ok (.iconst 1, 1) := by decide +kernel
theorem dX6_find_61 : decode cX6_find 61 = .ok (.putfield 44, 3) := by decide +kernel
theorem dX6_find_64 : decode cX6_find 64 = .ok (.aload_n 0, 1) := by decide +kernel
theorem dX6_find_65 : decode cX6_find 65 = .ok (.getfield 40, 3) := by decide +kernel
theorem dX6_find_68 : decode cX6_find 68 = .ok (.ldc 39, 2) := by decide +kernel
theorem dX6_find_70 : decode cX6_find 70 = .ok (.if_icmp .ge 7, 3) := by decide +kernel
theorem dX6_find_73 : decode cX6_find 73 = .ok (.iconst 1, 1) := by decide +kernel
theorem dX6_find_74 : decode cX6_find 74 = .ok (.goto 4, 3) := by decide +kernel
theorem dX6_find_77 : decode cX6_find 77 = .ok (.iconst 0, 1) := by decide +kernel
theorem dX6_find_78 : decode cX6_find 78 = .ok (.ireturn, 1) := by decide +kernel
theorem dX6_cheapestWithAnotherFirst_0 : decode cX6_cheapestWithAnotherFirst 0 = .ok (.aload_n 0, 1) := by decide +kernel
theorem dX6_cheapestWithAnotherFirst_1 : decode cX6_cheapestWithAnotherFirst 1 = .ok (.aload_n 1, 1) := by decide +kernel
theorem dX6_cheapestWithAnotherFirst_2 : decode cX6_cheapestWithAnotherFirst 2 = .ok (.iconst (-1), 1) := by decide +kernel
theorem dX6_cheapestWithAnotherFirst_3 : decode cX6_cheapestWithAnotherFirst 3 = .ok (.iconst 0, 1) := by decide +kernel
theorem dX6_cheapestWithAnotherFirst_4 : decode cX6_cheapestWithAnotherFirst 4 = .ok (.aload_n 0, 1) := by decide +kernel
theorem dX6_cheapestWithAnotherFirst_5 : decode cX6_cheapestWithAnotherFirst 5 = .ok (.getfield 35, 3) := by decide +kernel
theorem dX6_cheapestWithAnotherFirst_8 : decode cX6_cheapestWithAnotherFirst 8 = .ok (.iconst 0, 1) := by decide +kernel
theorem dX6_cheapestWithAnotherFirst_9 : decode cX6_cheapestWithAnotherFirst 9 = .ok (.invokevirtual 68, 3) := by decide +kernel
theorem dX6_cheapestWithAnotherFirst_12 : decode cX6_cheapestWithAnotherFirst 12 = .ok (.invokevirtual 61, 3) := by decide +kernel
theorem dX6_cheapestWithAnotherFirst_15 : decode cX6_cheapestWithAnotherFirst 15 = .ok (.ireturn, 1) := by decide +kernel
theorem dX6_cheapestBehind_0 : decode cX6_cheapestBehind 0 = .ok (.ldc 39, 2) := by decide +kernel
theorem dX6_cheapestBehind_2 : decode cX6_cheapestBehind 2 = .ok (.istore 5, 2) := by decide +kernel
theorem dX6_cheapestBehind_4 : decode cX6_cheapestBehind 4 = .ok (.iconst 0, 1) := by decide +kernel
theorem dX6_cheapestBehind_5 : decode cX6_cheapestBehind 5 = .ok (.istore 6, 2) := by decide +kernel
theorem dX6_cheapestBehind_7 : decode cX6_cheapestBehind 7 = .ok (.iload 6, 2) := by decide +kernel
theorem dX6_cheapestBehind_9 : decode cX6_cheapestBehind 9 = .ok (.aload_n 1, 1) := by decide +kernel
theorem dX6_cheapestBehind_10 : decode cX6_cheapestBehind 10 = .ok (.invokevirtual 72, 3) := by decide +kernel
theorem dX6_cheapestBehind_13 : decode cX6_cheapestBehind 13 = .ok (.if_icmp .ge 40, 3) := by decide +kernel
theorem dX6_cheapestBehind_16 : decode cX6_cheapestBehind 16 = .ok (.iload 6, 2) := by decide +kernel
theorem dX6_cheapestBehind_18 : decode cX6_cheapestBehind 18 = .ok (.iload 4, 2) := by decide +kernel
theorem dX6_cheapestBehind_20 : decode cX6_cheapestBehind 20 = .ok (.if_icmp .eq 27, 3) := by decide +kernel
theorem dX6_cheapestBehind_23 : decode cX6_cheapestBehind 23 = .ok (.iload 5, 2) := by decide +kernel
theorem dX6_cheapestBehind_25 : decode cX6_cheapestBehind 25 = .ok (.aload_n 1, 1) := by decide +kernel
theorem dX6_cheapestBehind_26 : decode cX6_cheapestBehind 26 = .ok (.iload_n 2, 1) := by decide +kernel
theorem dX6_cheapestBehind_27 : decode cX6_cheapestBehind 27 = .ok (.iload 6, 2) := by decide +kernel
theorem dX6_cheapestBehind_29 : decode cX6_cheapestBehind 29 = .ok (.invokevirtual 77, 3) := by decide +kernel
theorem dX6_cheapestBehind_32 : decode cX6_cheapestBehind 32 = .ok (.aload_n 0, 1) := by decide +kernel
theorem dX6_cheapestBehind_33 : decode cX6_cheapestBehind 33 = .ok (.getfield 11, 3) := by decide +kernel
theorem dX6_cheapestBehind_36 : decode cX6_cheapestBehind 36 = .ok (.iload_n 3, 1) := by decide +kernel
theorem dX6_cheapestBehind_37 : decode cX6_cheapestBehind 37 = .ok (.aaload, 1) := by decide +kernel
theorem dX6_cheapestBehind_38 : decode cX6_cheapestBehind 38 = .ok (.iload 6, 2) := by decide +kernel
theorem dX6_cheapestBehind_40 : decode cX6_cheapestBehind 40 = .ok (.iaload, 1) := by decide +kernel
theorem dX6_cheapestBehind_41 : decode cX6_cheapestBehind 41 = .ok (.iadd, 1) := by decide +kernel
theorem dX6_cheapestBehind_42 : decode cX6_cheapestBehind 42 = .ok (.invokestatic 81, 3) := by decide +kernel
theorem dX6_cheapestBehind_45 : decode cX6_cheapestBehind 45 = .ok (.istore 5, 2) := by decide +kernel
theorem dX6_cheapestBehind_47 : decode cX6_cheapestBehind 47 = .ok (.iinc 6 1, 3) := by decide +kernel
theorem dX6_cheapestBehind_50 : decode cX6_cheapestBehind 50 = .ok (.goto (-43), 3) := by decide +kernel
theorem dX6_cheapestBehind_53 : decode cX6_cheapestBehind 53 = .ok (.iload 5, 2) := by decide +kernel
theorem dX6_cheapestBehind_55 : decode cX6_cheapestBehind 55 = .ok (.ireturn, 1) := by decide +kernel
theorem dX6_lookAhead_0 : decode cX6_lookAhead 0 = .ok (.iconst 0, 1) := by decide +kernel
theorem dX6_lookAhead_1 : decode cX6_lookAhead 1 = .ok (.istore_n 3, 1) := by decide +kernel
theorem dX6_lookAhead_2 : decode cX6_lookAhead 2 = .ok (.iload_n 3, 1) := by decide +kernel
theorem dX6_lookAhead_3 : decode cX6_lookAhead 3 = .ok (.bipush 16, 2) := by decide +kernel
theorem dX6_lookAhead_5 : decode cX6_lookAhead 5 = .ok (.if_icmp .ge 20, 3) := by decide +kernel
theorem dX6_lookAhead_8 : decode cX6_lookAhead 8 = .ok (.aload_n 0, 1) := by decide +kernel
theorem dX6_lookAhead_9 : decode cX6_lookAhead 9 = .ok (.getfield 16, 3) := by decide +kernel
theorem dX6_lookAhead_12 : decode cX6_lookAhead 12 = .ok (.iload_n 3, 1) := by decide +kernel
theorem dX6_lookAhead_13 : decode cX6_lookAhead 13 = .ok (.aaload, 1) := by decide +kernel
theorem dX6_lookAhead_14 : decode cX6_lookAhead 14 = .ok (.ldc 39, 2) := by decide +kernel
theorem dX6_lookAhead_16 : decode cX6_lookAhead 16 = .ok (.invokestatic 86, 3) := by decide +kernel
theorem dX6_lookAhead_19 : decode cX6_lookAhead 19 = .ok (.iinc 3 1, 3) := by decide +kernel
theorem dX6_lookAhead_22 : decode cX6_lookAhead 22 = .ok (.goto (-20), 3) := by decide +kernel
theorem dX6_lookAhead_25 : decode cX6_lookAhead 25 = .ok (.aload_n 1, 1) := by decide +kernel
theorem dX6_lookAhead_26 : decode cX6_lookAhead 26 = .ok (.invokevirtual 55, 3) := by decide +kernel
theorem dX6_lookAhead_29 : decode cX6_lookAhead 29 = .ok (.iconst 1, 1) := by decide +kernel
theorem dX6_lookAhead_30 : decode cX6_lookAhead 30 = .ok (.isub, 1) := by decide +kernel
theorem dX6_lookAhead_31 : decode cX6_lookAhead 31 = .ok (.istore_n 3, 1) := by decide +kernel
theorem dX6_lookAhead_32 : decode cX6_lookAhead 32 = .ok (.iload_n 3, 1) := by decide +kernel
theorem dX6_lookAhead_33 : decode cX6_lookAhead 33 = .ok (.ifCond .lt 137, 3) := by decide +kernel
theorem dX6_lookAhead_36 : decode cX6_lookAhead 36 = .ok (.iload_n 3, 1) := by decide +kernel
theorem dX6_lookAhead_37 : decode cX6_lookAhead 37 = .ok (.aload_n 1, 1) := by decide +kernel
theorem dX6_lookAhead_38 : decode cX6_lookAhead 38 = .ok (.invokevirtual 55, 3) := by decide +kernel
theorem dX6_lookAhead_41 : decode cX6_lookAhead 41 = .ok (.iconst 1, 1) := by decide +kernel
theorem dX6_lookAhead_42 : decode cX6_lookAhead 42 = .ok (.isub, 1) := by decide +kernel
theorem dX6_lookAhead_43 : decode cX6_lookAhead 43 = .ok (.if_icmp .ne 7, 3) := by decide +kernel
theorem dX6_lookAhead_46 : decode cX6_lookAhead 46 = .ok (.iconst 1, 1) := by decide +kernel
theorem dX6_lookAhead_47 : decode cX6_lookAhead 47 = .ok (.goto 4, 3) := by decide +kernel
theorem dX6_lookAhead_50 : decode cX6_lookAhead 50 = .ok (.iconst 0, 1) := by decide +kernel
theorem dX6_lookAhead_51 : decode cX6_lookAhead 51 = .ok (.istore 4, 2) := by decide +kernel
theorem dX6_lookAhead_53 : decode cX6_lookAhead 53 = .ok (.iconst 0, 1) := by decide +kernel
theorem dX6_lookAhead_54 : decode cX6_lookAhead 54 = .ok (.istore 5, 2) := by decide +kernel
theorem dX6_lookAhead_56 : decode cX6_lookAhead 56 = .ok (.iload 5, 2) := by decide +kernel
theorem dX6_lookAhead_58 : decode cX6_lookAhead 58 = .ok (.aload_n 2, 1) := by decide +kernel
theorem dX6_lookAhead_59 : decode cX6_lookAhead 59 = .ok (.invokevirtual 72, 3) := by decide +kernel
theorem dX6_lookAhead_62 : decode cX6_lookAhead 62 = .ok (.if_icmp .ge 102, 3) := by decide +kernel
theorem dX6_lookAhead_65 : decode cX6_lookAhead 65 = .ok (.iload 4, 2) := by decide +kernel
theorem dX6_lookAhead_67 : decode cX6_lookAhead 67 = .ok (.ifCond .eq 13, 3) := by decide +kernel
theorem dX6_lookAhead_70 : decode cX6_lookAhead 70 = .ok (.aload_n 2, 1) := by decide +kernel
theorem dX6_lookAhead_71 : decode cX6_lookAhead 71 = .ok (.iload 5, 2) := by decide +kernel
theorem dX6_lookAhead_73 : decode cX6_lookAhead 73 = .ok (.iconst (-1), 1) := by decide +kernel
theorem dX6_lookAhead_74 : decode cX6_lookAhead 74 = .ok (.invokevirtual 77, 3) := by decide +kernel
theorem dX6_lookAhead_77 : decode cX6_lookAhead 77 = .ok (.goto 14, 3) := by decide +kernel
theorem dX6_lookAhead_80 : decode cX6_lookAhead 80 = .ok (.aload_n 0, 1) := by decide +kernel
theorem dX6_lookAhead_81 : decode cX6_lookAhead 81 = .ok (.aload_n 2, 1) := by decide +kernel
theorem dX6_lookAhead_82 : decode cX6_lookAhead 82 = .ok (.iload 5, 2) := by decide +kernel
theorem dX6_lookAhead_84 : decode cX6_lookAhead 84 = .ok (.iload_n 3, 1) := by decide +kernel
theorem dX6_lookAhead_85 : decode cX6_lookAhead 85 = .ok (.iconst 1, 1) := by decide +kernel
theorem dX6_lookAhead_86 : decode cX6_lookAhead 86 = .ok (.iadd, 1) := by decide +kernel
theorem dX6_lookAhead_87 : decode cX6_lookAhead 87 = .ok (.iconst (-1), 1) := by decide +kernel
theorem dX6_lookAhead_88 : decode cX6_lookAhead 88 = .ok (.invokevirtual 61, 3) := by decide +kernel
theorem dX6_lookAhead_91 : decode cX6_lookAhead 91 = .ok (.istore 6, 2) := by decide +kernel
theorem dX6_lookAhead_93 : decode cX6_lookAhead 93 = .ok (.aload_n 0, 1) := by decide +kernel
theorem dX6_lookAhead_94 : decode cX6_lookAhead 94 = .ok (.getfield 11, 3) := by decide +kernel
