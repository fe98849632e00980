theorem dX6_lookAhead_97 : decode cX6_lookAhead 97 = .ok (.iload_n 3, 1) := by decide +kernel
theorem dX6_lookAhead_98 : decode cX6_lookAhead 98 = .ok (.aaload, 1) := by decide +kernel
theorem dX6_lookAhead_99 : decode cX6_lookAhead 99 = .ok (.iload 5, 2) := by decide +kernel
theorem dX6_lookAhead_101 : decode cX6_lookAhead 101 = .ok (.ldc 39, 2) := by decide +kernel
theorem dX6_lookAhead_103 : decode cX6_lookAhead 103 = .ok (.iastore, 1) := by decide +kernel
theorem dX6_lookAhead_104 : decode cX6_lookAhead 104 = .ok (.iconst 0, 1) := by decide +kernel
theorem dX6_lookAhead_105 : decode cX6_lookAhead 105 = .ok (.istore 7, 2) := by decide +kernel
theorem dX6_lookAhead_107 : decode cX6_lookAhead 107 = .ok (.iload 7, 2) := by decide +kernel
theorem dX6_lookAhead_109 : decode cX6_lookAhead 109 = .ok (.aload_n 2, 1) := by decide +kernel
theorem dX6_lookAhead_110 : decode cX6_lookAhead 110 = .ok (.iload 5, 2) := by decide +kernel
theorem dX6_lookAhead_112 : decode cX6_lookAhead 112 = .ok (.invokevirtual 92, 3) := by decide +kernel
theorem dX6_lookAhead_115 : decode cX6_lookAhead 115 = .ok (.if_icmp .ge 43, 3) := by decide +kernel
theorem dX6_lookAhead_118 : decode cX6_lookAhead 118 = .ok (.aload_n 0, 1) := by decide +kernel
theorem dX6_lookAhead_119 : decode cX6_lookAhead 119 = .ok (.getfield 11, 3) := by decide +kernel
theorem dX6_lookAhead_122 : decode cX6_lookAhead 122 = .ok (.iload_n 3, 1) := by decide +kernel
theorem dX6_lookAhead_123 : decode cX6_lookAhead 123 = .ok (.aaload, 1) := by decide +kernel
theorem dX6_lookAhead_124 : decode cX6_lookAhead 124 = .ok (.iload 5, 2) := by decide +kernel
theorem dX6_lookAhead_126 : decode cX6_lookAhead 126 = .ok (.aload_n 0, 1) := by decide +kernel
theorem dX6_lookAhead_127 : decode cX6_lookAhead 127 = .ok (.getfield 11, 3) := by decide +kernel
theorem dX6_lookAhead_130 : decode cX6_lookAhead 130 = .ok (.iload_n 3, 1) := by decide +kernel
theorem dX6_lookAhead_131 : decode cX6_lookAhead 131 = .ok (.aaload, 1) := by decide +kernel
theorem dX6_lookAhead_132 : decode cX6_lookAhead 132 = .ok (.iload 5, 2) := by decide +kernel
theorem dX6_lookAhead_134 : decode cX6_lookAhead 134 = .ok (.iaload, 1) := by decide +kernel
theorem dX6_lookAhead_135 : decode cX6_lookAhead 135 = .ok (.aload_n 0, 1) := by decide +kernel
theorem dX6_lookAhead_136 : decode cX6_lookAhead 136 = .ok (.aload_n 1, 1) := by decide +kernel
theorem dX6_lookAhead_137 : decode cX6_lookAhead 137 = .ok (.aload_n 2, 1) := by decide +kernel
theorem dX6_lookAhead_138 : decode cX6_lookAhead 138 = .ok (.iload 5, 2) := by decide +kernel
theorem dX6_lookAhead_140 : decode cX6_lookAhead 140 = .ok (.iload 7, 2) := by decide +kernel
theorem dX6_lookAhead_142 : decode cX6_lookAhead 142 = .ok (.iload_n 3, 1) := by decide +kernel
theorem dX6_lookAhead_143 : decode cX6_lookAhead 143 = .ok (.iload 6, 2) := by decide +kernel
theorem dX6_lookAhead_145 : decode cX6_lookAhead 145 = .ok (.invokevirtual 95, 3) := by decide +kernel
theorem dX6_lookAhead_148 : decode cX6_lookAhead 148 = .ok (.invokestatic 81, 3) := by decide +kernel
theorem dX6_lookAhead_151 : decode cX6_lookAhead 151 = .ok (.iastore, 1) := by decide +kernel
theorem dX6_lookAhead_152 : decode cX6_lookAhead 152 = .ok (.iinc 7 1, 3) := by decide +kernel
theorem dX6_lookAhead_155 : decode cX6_lookAhead 155 = .ok (.goto (-48), 3) := by decide +kernel
theorem dX6_lookAhead_158 : decode cX6_lookAhead 158 = .ok (.iinc 5 1, 3) := by decide +kernel
theorem dX6_lookAhead_161 : decode cX6_lookAhead 161 = .ok (.goto (-105), 3) := by decide +kernel
theorem dX6_lookAhead_164 : decode cX6_lookAhead 164 = .ok (.iinc 3 (-1), 3) := by decide +kernel
theorem dX6_lookAhead_167 : decode cX6_lookAhead 167 = .ok (.goto (-135), 3) := by decide +kernel
theorem dX6_lookAhead_170 : decode cX6_lookAhead 170 = .ok (.return_, 1) := by decide +kernel
theorem dX6_stepBack_0 : decode cX6_stepBack 0 = .ok (.aload_n 0, 1) := by decide +kernel
theorem dX6_stepBack_1 : decode cX6_stepBack 1 = .ok (.getfield 16, 3) := by decide +kernel
theorem dX6_stepBack_4 : decode cX6_stepBack 4 = .ok (.iload_n 3, 1) := by decide +kernel
theorem dX6_stepBack_5 : decode cX6_stepBack 5 = .ok (.iconst 2, 1) := by decide +kernel
theorem dX6_stepBack_6 : decode cX6_stepBack 6 = .ok (.imul, 1) := by decide +kernel
theorem dX6_stepBack_7 : decode cX6_stepBack 7 = .ok (.iload 4, 2) := by decide +kernel
theorem dX6_stepBack_9 : decode cX6_stepBack 9 = .ok (.iadd, 1) := by decide +kernel
theorem dX6_stepBack_10 : decode cX6_stepBack 10 = .ok (.aaload, 1) := by decide +kernel
theorem dX6_stepBack_11 : decode cX6_stepBack 11 = .ok (.astore 7, 2) := by decide +kernel
theorem dX6_stepBack_13 : decode cX6_stepBack 13 = .ok (.aload_n 2, 1) := by decide +kernel
theorem dX6_stepBack_14 : decode cX6_stepBack 14 = .ok (.iload_n 3, 1) := by decide +kernel
theorem dX6_stepBack_15 : decode cX6_stepBack 15 = .ok (.iload 4, 2) := by decide +kernel
theorem dX6_stepBack_17 : decode cX6_stepBack 17 = .ok (.invokevirtual 99, 3) := by decide +kernel
theorem dX6_stepBack_20 : decode cX6_stepBack 20 = .ok (.istore 8, 2) := by decide +kernel
theorem dX6_stepBack_22 : decode cX6_stepBack 22 = .ok (.iconst 0, 1) := by decide +kernel
theorem dX6_stepBack_23 : decode cX6_stepBack 23 = .ok (.istore 9, 2) := by decide +kernel
theorem dX6_stepBack_25 : decode cX6_stepBack 25 = .ok (.iload 9, 2) := by decide +kernel
theorem dX6_stepBack_27 : decode cX6_stepBack 27 = .ok (.iload 8, 2) := by decide +kernel
theorem dX6_stepBack_29 : decode cX6_stepBack 29 = .ok (.if_icmp .ge 77, 3) := by decide +kernel
theorem dX6_stepBack_32 : decode cX6_stepBack 32 = .ok (.iload 9, 2) := by decide +kernel
theorem dX6_stepBack_34 : decode cX6_stepBack 34 = .ok (.iconst 1, 1) := by decide +kernel
theorem dX6_stepBack_35 : decode cX6_stepBack 35 = .ok (.iadd, 1) := by decide +kernel
theorem dX6_stepBack_36 : decode cX6_stepBack 36 = .ok (.iload 8, 2) := by decide +kernel
theorem dX6_stepBack_38 : decode cX6_stepBack 38 = .ok (.if_icmp .ge 13, 3) := by decide +kernel
theorem dX6_stepBack_41 : decode cX6_stepBack 41 = .ok (.aload 7, 2) := by decide +kernel
theorem dX6_stepBack_43 : decode cX6_stepBack 43 = .ok (.iload 9, 2) := by decide +kernel
theorem dX6_stepBack_45 : decode cX6_stepBack 45 = .ok (.iconst 1, 1) := by decide +kernel
theorem dX6_stepBack_46 : decode cX6_stepBack 46 = .ok (.iadd, 1) := by decide +kernel
theorem dX6_stepBack_47 : decode cX6_stepBack 47 = .ok (.iaload, 1) := by decide +kernel
theorem dX6_stepBack_48 : decode cX6_stepBack 48 = .ok (.goto 5, 3) := by decide +kernel
theorem dX6_stepBack_51 : decode cX6_stepBack 51 = .ok (.iload 6, 2) := by decide +kernel
theorem dX6_stepBack_53 : decode cX6_stepBack 53 = .ok (.istore 10, 2) := by decide +kernel
theorem dX6_stepBack_55 : decode cX6_stepBack 55 = .ok (.iload 10, 2) := by decide +kernel
theorem dX6_stepBack_57 : decode cX6_stepBack 57 = .ok (.aload 7, 2) := by decide +kernel
theorem dX6_stepBack_59 : decode cX6_stepBack 59 = .ok (.iload 9, 2) := by decide +kernel
theorem dX6_stepBack_61 : decode cX6_stepBack 61 = .ok (.iaload, 1) := by decide +kernel
theorem dX6_stepBack_62 : decode cX6_stepBack 62 = .ok (.aload_n 1, 1) := by decide +kernel
theorem dX6_stepBack_63 : decode cX6_stepBack 63 = .ok (.invokevirtual 102, 3) := by decide +kernel
theorem dX6_stepBack_66 : decode cX6_stepBack 66 = .ok (.iadd, 1) := by decide +kernel
theorem dX6_stepBack_67 : decode cX6_stepBack 67 = .ok (.invokestatic 81, 3) := by decide +kernel
theorem dX6_stepBack_70 : decode cX6_stepBack 70 = .ok (.istore 11, 2) := by decide +kernel
theorem dX6_stepBack_72 : decode cX6_stepBack 72 = .ok (.aload 7, 2) := by decide +kernel
theorem dX6_stepBack_74 : decode cX6_stepBack 74 = .ok (.iload 9, 2) := by decide +kernel
theorem dX6_stepBack_76 : decode cX6_stepBack 76 = .ok (.ldc 39, 2) := by decide +kernel
theorem dX6_stepBack_78 : decode cX6_stepBack 78 = .ok (.iload 11, 2) := by decide +kernel
theorem dX6_stepBack_80 : decode cX6_stepBack 80 = .ok (.aload_n 1, 1) := by decide +kernel
theorem dX6_stepBack_81 : decode cX6_stepBack 81 = .ok (.aload_n 2, 1) := by decide +kernel
theorem dX6_stepBack_82 : decode cX6_stepBack 82 = .ok (.iload_n 3, 1) := by decide +kernel
theorem dX6_stepBack_83 : decode cX6_stepBack 83 = .ok (.iload 4, 2) := by decide +kernel
theorem dX6_stepBack_85 : decode cX6_stepBack 85 = .ok (.iload 9, 2) := by decide +kernel
theorem dX6_stepBack_87 : decode cX6_stepBack 87 = .ok (.invokevirtual 105, 3) := by decide +kernel
theorem dX6_stepBack_90 : decode cX6_stepBack 90 = .ok (.iload 5, 2) := by decide +kernel
theorem dX6_stepBack_92 : decode cX6_stepBack 92 = .ok (.invokevirtual 109, 3) := by decide +kernel
theorem dX6_stepBack_95 : decode cX6_stepBack 95 = .ok (.iadd, 1) := by decide +kernel
theorem dX6_stepBack_96 : decode cX6_stepBack 96 = .ok (.invokestatic 81, 3) := by decide +kernel
theorem dX6_stepBack_99 : decode cX6_stepBack 99 = .ok (.iastore, 1) := by decide +kernel
theorem dX6_stepBack_100 : decode cX6_stepBack 100 = .ok (.iinc 9 1, 3) := by decide +kernel
theorem dX6_stepBack_103 : decode cX6_stepBack 103 = .ok (.goto (-78), 3) := by decide +kernel
theorem dX6_stepBack_106 : decode cX6_stepBack 106 = .ok (.aload 7, 2) := by decide +kernel
theorem dX6_stepBack_108 : decode cX6_stepBack 108 = .ok (.iconst 0, 1) := by decide +kernel
theorem dX6_stepBack_109 : decode cX6_stepBack 109 = .ok (.iaload, 1) := by decide +kernel
theorem dX6_stepBack_110 : decode cX6_stepBack 110 = .ok (.ireturn, 1) := by decide +kernel
theorem dX6_findRow_0 : decode cX6_findRow 0 = .ok (.aload_n 1, 1) := by decide +kernel
theorem dX6_findRow_1 : decode cX6_findRow 1 = .ok (.invokevirtual 55, 3) := by decide +kernel
theorem dX6_findRow_4 : decode cX6_findRow 4 = .ok (.istore_n 3, 1) := by decide +kernel
theorem dX6_findRow_5 : decode cX6_findRow 5 = .ok (.iconst (-1), 1) := by decide +kernel
theorem dX6_findRow_6 : decode cX6_findRow 6 = .ok (.istore 4, 2) := by decide +kernel
theorem dX6_findRow_8 : decode cX6_findRow 8 = .ok (.aload_n 0, 1) := by decide +kernel
theorem dX6_findRow_9 : decode cX6_findRow 9 = .ok (.getfield 19, 3) := by decide +kernel
theorem dX6_findRow_12 : decode cX6_findRow 12 = .ok (.ldc 39, 2) := by decide +kernel
theorem dX6_findRow_14 : decode cX6_findRow 14 = .ok (.invokestatic 86, 3) := by decide +kernel
theorem dX6_findRow_17 : decode cX6_findRow 17 = .ok (.aload_n 0, 1) := by decide +kernel
theorem dX6_findRow_18 : decode cX6_findRow 18 = .ok (.getfield 19, 3) := by decide +kernel
theorem dX6_findRow_21 : decode cX6_findRow 21 = .ok (.iconst 0, 1) := by decide +kernel
theorem dX6_findRow_22 : decode cX6_findRow 22 = .ok (.iconst 0, 1) := by decide +kernel
theorem dX6_findRow_23 : decode cX6_findRow 23 = .ok (.iastore, 1) := by decide +kernel
theorem dX6_findRow_24 : decode cX6_findRow 24 = .ok (.iconst 0, 1) := by decide +kernel
theorem dX6_findRow_25 : decode cX6_findRow 25 = .ok (.istore 5, 2) := by decide +kernel
theorem dX6_findRow_27 : decode cX6_findRow 27 = .ok (.iload 5, 2) := by decide +kernel
theorem dX6_findRow_29 : decode cX6_findRow 29 = .ok (.iload_n 3, 1) := by decide +kernel
theorem dX6_findRow_30 : decode cX6_findRow 30 = .ok (.if_icmp .ge 62, 3) := by decide +kernel
theorem dX6_findRow_33 : decode cX6_findRow 33 = .ok (.aload_n 0, 1) := by decide +kernel
theorem dX6_findRow_34 : decode cX6_findRow 34 = .ok (.getfield 19, 3) := by decide +kernel
theorem dX6_findRow_37 : decode cX6_findRow 37 = .ok (.iload_n 3, 1) := by decide +kernel
theorem dX6_findRow_38 : decode cX6_findRow 38 = .ok (.iaload, 1) := by decide +kernel
theorem dX6_findRow_39 : decode cX6_findRow 39 = .ok (.aload_n 2, 1) := by decide +kernel
theorem dX6_findRow_40 : decode cX6_findRow 40 = .ok (.iload 4, 2) := by decide +kernel
theorem dX6_findRow_42 : decode cX6_findRow 42 = .ok (.iconst (-1), 1) := by decide +kernel
theorem dX6_findRow_43 : decode cX6_findRow 43 = .ok (.invokevirtual 77, 3) := by decide +kernel
theorem dX6_findRow_46 : decode cX6_findRow 46 = .ok (.iadd, 1) := by decide +kernel
theorem dX6_findRow_47 : decode cX6_findRow 47 = .ok (.aload_n 0, 1) := by decide +kernel
theorem dX6_findRow_48 : decode cX6_findRow 48 = .ok (.getfield 40, 3) := by decide +kernel
theorem dX6_findRow_51 : decode cX6_findRow 51 = .ok (.if_icmp .ne 4, 3) := by decide +kernel
theorem dX6_findRow_54 : decode cX6_findRow 54 = .ok (.return_, 1) := by decide +kernel
theorem dX6_findRow_55 : decode cX6_findRow 55 = .ok (.aload_n 0, 1) := by decide +kernel
theorem dX6_findRow_56 : decode cX6_findRow 56 = .ok (.aload_n 2, 1) := by decide +kernel
theorem dX6_findRow_57 : decode cX6_findRow 57 = .ok (.iload 4, 2) := by decide +kernel
theorem dX6_findRow_59 : decode cX6_findRow 59 = .ok (.iload_n 3, 1) := by decide +kernel
theorem dX6_findRow_60 : decode cX6_findRow 60 = .ok (.invokevirtual 112, 3) := by decide +kernel
theorem dX6_findRow_63 : decode cX6_findRow 63 = .ok (.istore 6, 2) := by decide +kernel
theorem dX6_findRow_65 : decode cX6_findRow 65 = .ok (.iload 6, 2) := by decide +kernel
theorem dX6_findRow_67 : decode cX6_findRow 67 = .ok (.iconst (-1), 1) := by decide +kernel
theorem dX6_findRow_68 : decode cX6_findRow 68 = .ok (.if_icmp .ne 4, 3) := by decide +kernel
theorem dX6_findRow_71 : decode cX6_findRow 71 = .ok (.return_, 1) := by decide +kernel
theorem dX6_findRow_72 : decode cX6_findRow 72 = .ok (.aload_n 0, 1) := by decide +kernel
theorem dX6_findRow_73 : decode cX6_findRow 73 = .ok (.aload_n 1, 1) := by decide +kernel
theorem dX6_findRow_74 : decode cX6_findRow 74 = .ok (.aload_n 2, 1) := by decide +kernel
theorem dX6_findRow_75 : decode cX6_findRow 75 = .ok (.iload 4, 2) := by decide +kernel
theorem dX6_findRow_77 : decode cX6_findRow 77 = .ok (.iload 6, 2) := by decide +kernel
theorem dX6_findRow_79 : decode cX6_findRow 79 = .ok (.invokevirtual 116, 3) := by decide +kernel
theorem dX6_findRow_82 : decode cX6_findRow 82 = .ok (.iload 6, 2) := by decide +kernel
theorem dX6_findRow_84 : decode cX6_findRow 84 = .ok (.istore 4, 2) := by decide +kernel
theorem dX6_findRow_86 : decode cX6_findRow 86 = .ok (.iinc 5 1, 3) := by decide +kernel
theorem dX6_findRow_89 : decode cX6_findRow 89 = .ok (.goto (-62), 3) := by decide +kernel
theorem dX6_findRow_92 : decode cX6_findRow 92 = .ok (.return_, 1) := by decide +kernel
theorem dX6_firstThatLeadsOn_0 : decode cX6_firstThatLeadsOn 0 = .ok (.iconst 0, 1) := by decide +kernel
theorem dX6_firstThatLeadsOn_1 : decode cX6_firstThatLeadsOn 1 = .ok (.istore 4, 2) := by decide +kernel
theorem dX6_firstThatLeadsOn_3 : decode cX6_firstThatLeadsOn 3 = .ok (.iload 4, 2) := by decide +kernel
theorem dX6_firstThatLeadsOn_5 : decode cX6_firstThatLeadsOn 5 = .ok (.aload_n 1, 1) := by decide +kernel
theorem dX6_firstThatLeadsOn_6 : decode cX6_firstThatLeadsOn 6 = .ok (.invokevirtual 72, 3) := by decide +kernel
theorem dX6_firstThatLeadsOn_9 : decode cX6_firstThatLeadsOn 9 = .ok (.if_icmp .ge 60, 3) := by decide +kernel
theorem dX6_firstThatLeadsOn_12 : decode cX6_firstThatLeadsOn 12 = .ok (.iconst 0, 1) := by decide +kernel
theorem dX6_firstThatLeadsOn_13 : decode cX6_firstThatLeadsOn 13 = .ok (.istore 5, 2) := by decide +kernel
theorem dX6_firstThatLeadsOn_15 : decode cX6_firstThatLeadsOn 15 = .ok (.iload 5, 2) := by decide +kernel
theorem dX6_firstThatLeadsOn_17 : decode cX6_firstThatLeadsOn 17 = .ok (.iload_n 3, 1) := by decide +kernel
theorem dX6_firstThatLeadsOn_18 : decode cX6_firstThatLeadsOn 18 = .ok (.if_icmp .ge 45, 3) := by decide +kernel
theorem dX6_firstThatLeadsOn_21 : decode cX6_firstThatLeadsOn 21 = .ok (.aload_n 0, 1) := by decide +kernel
theorem dX6_firstThatLeadsOn_22 : decode cX6_firstThatLeadsOn 22 = .ok (.getfield 19, 3) := by decide +kernel
theorem dX6_firstThatLeadsOn_25 : decode cX6_firstThatLeadsOn 25 = .ok (.iload 5, 2) := by decide +kernel
theorem dX6_firstThatLeadsOn_27 : decode cX6_firstThatLeadsOn 27 = .ok (.iaload, 1) := by decide +kernel
theorem dX6_firstThatLeadsOn_28 : decode cX6_firstThatLeadsOn 28 = .ok (.aload_n 1, 1) := by decide +kernel
theorem dX6_firstThatLeadsOn_29 : decode cX6_firstThatLeadsOn 29 = .ok (.iload_n 2, 1) := by decide +kernel
theorem dX6_firstThatLeadsOn_30 : decode cX6_firstThatLeadsOn 30 = .ok (.iload 4, 2) := by decide +kernel
theorem dX6_firstThatLeadsOn_32 : decode cX6_firstThatLeadsOn 32 = .ok (.invokevirtual 77, 3) := by decide +kernel
theorem dX6_firstThatLeadsOn_35 : decode cX6_firstThatLeadsOn 35 = .ok (.iadd, 1) := by decide +kernel
theorem dX6_firstThatLeadsOn_36 : decode cX6_firstThatLeadsOn 36 = .ok (.aload_n 0, 1) := by decide +kernel
theorem dX6_firstThatLeadsOn_37 : decode cX6_firstThatLeadsOn 37 = .ok (.getfield 11, 3) := by decide +kernel
theorem dX6_firstThatLeadsOn_40 : decode cX6_firstThatLeadsOn 40 = .ok (.iload 5, 2) := by decide +kernel
theorem dX6_firstThatLeadsOn_42 : decode cX6_firstThatLeadsOn 42 = .ok (.aaload, 1) := by decide +kernel
theorem dX6_firstThatLeadsOn_43 : decode cX6_firstThatLeadsOn 43 = .ok (.iload 4, 2) := by decide +kernel
theorem dX6_firstThatLeadsOn_45 : decode cX6_firstThatLeadsOn 45 = .ok (.iaload, 1) := by decide +kernel
theorem dX6_firstThatLeadsOn_46 : decode cX6_firstThatLeadsOn 46 = .ok (.iadd, 1) := by decide +kernel
theorem dX6_firstThatLeadsOn_47 : decode cX6_firstThatLeadsOn 47 = .ok (.aload_n 0, 1) := by decide +kernel
theorem dX6_firstThatLeadsOn_48 : decode cX6_firstThatLeadsOn 48 = .ok (.getfield 40, 3) := by decide +kernel
theorem dX6_firstThatLeadsOn_51 : decode cX6_firstThatLeadsOn 51 = .ok (.if_icmp .ne 6, 3) := by decide +kernel
theorem dX6_firstThatLeadsOn_54 : decode cX6_firstThatLeadsOn 54 = .ok (.iload 4, 2) := by decide +kernel
theorem dX6_firstThatLeadsOn_56 : decode cX6_firstThatLeadsOn 56 = .ok (.ireturn, 1) := by decide +kernel
theorem dX6_firstThatLeadsOn_57 : decode cX6_firstThatLeadsOn 57 = .ok (.iinc 5 1, 3) := by decide +kernel
theorem dX6_firstThatLeadsOn_60 : decode cX6_firstThatLeadsOn 60 = .ok (.goto (-45), 3) := by decide +kernel
theorem dX6_firstThatLeadsOn_63 : decode cX6_firstThatLeadsOn 63 = .ok (.iinc 4 1, 3) := by decide +kernel
theorem dX6_firstThatLeadsOn_66 : decode cX6_firstThatLeadsOn 66 = .ok (.goto (-63), 3) := by decide +kernel
theorem dX6_firstThatLeadsOn_69 : decode cX6_firstThatLeadsOn 69 = .ok (.iconst (-1), 1) := by decide +kernel
theorem dX6_firstThatLeadsOn_70 : decode cX6_firstThatLeadsOn 70 = .ok (.ireturn, 1) := by decide +kernel
theorem dX6_append_0 : decode cX6_append 0 = .ok (.aload_n 1, 1) := by decide +kernel
theorem dX6_append_1 : decode cX6_append 1 = .ok (.invokevirtual 55, 3) := by decide +kernel
theorem dX6_append_4 : decode cX6_append 4 = .ok (.istore 5, 2) := by decide +kernel
theorem dX6_append_6 : decode cX6_append 6 = .ok (.iconst 0, 1) := by decide +kernel
theorem dX6_append_7 : decode cX6_append 7 = .ok (.istore 6, 2) := by decide +kernel
theorem dX6_append_9 : decode cX6_append 9 = .ok (.iload 6, 2) := by decide +kernel
theorem dX6_append_11 : decode cX6_append 11 = .ok (.iload 5, 2) := by decide +kernel
theorem dX6_append_13 : decode cX6_append 13 = .ok (.if_icmp .gt 33, 3) := by decide +kernel
theorem dX6_append_16 : decode cX6_append 16 = .ok (.aload_n 0, 1) := by decide +kernel
theorem dX6_append_17 : decode cX6_append 17 = .ok (.getfield 26, 3) := by decide +kernel
theorem dX6_append_20 : decode cX6_append 20 = .ok (.iload 6, 2) := by decide +kernel
theorem dX6_append_22 : decode cX6_append 22 = .ok (.aload_n 0, 1) := by decide +kernel
theorem dX6_append_23 : decode cX6_append 23 = .ok (.getfield 19, 3) := by decide +kernel
theorem dX6_append_26 : decode cX6_append 26 = .ok (.iload 6, 2) := by decide +kernel
theorem dX6_append_28 : decode cX6_append 28 = .ok (.iaload, 1) := by decide +kernel
theorem dX6_append_29 : decode cX6_append 29 = .ok (.aload_n 2, 1) := by decide +kernel
theorem dX6_append_30 : decode cX6_append 30 = .ok (.iload_n 3, 1) := by decide +kernel
theorem dX6_append_31 : decode cX6_append 31 = .ok (.iload 4, 2) := by decide +kernel
theorem dX6_append_33 : decode cX6_append 33 = .ok (.invokevirtual 77, 3) := by decide +kernel
theorem dX6_append_36 : decode cX6_append 36 = .ok (.iadd, 1) := by decide +kernel
theorem dX6_append_37 : decode cX6_append 37 = .ok (.invokevirtual 120, 3) := by decide +kernel
theorem dX6_append_40 : decode cX6_append 40 = .ok (.iinc 6 1, 3) := by decide +kernel
theorem dX6_append_43 : decode cX6_append 43 = .ok (.goto (-34), 3) := by decide +kernel
theorem dX6_append_46 : decode cX6_append 46 = .ok (.aload_n 0, 1) := by decide +kernel
theorem dX6_append_47 : decode cX6_append 47 = .ok (.getfield 26, 3) := by decide +kernel
theorem dX6_append_50 : decode cX6_append 50 = .ok (.aload_n 1, 1) := by decide +kernel
theorem dX6_append_51 : decode cX6_append 51 = .ok (.aload_n 2, 1) := by decide +kernel
theorem dX6_append_52 : decode cX6_append 52 = .ok (.iload 4, 2) := by decide +kernel
theorem dX6_append_54 : decode cX6_append 54 = .ok (.iconst 0, 1) := by decide +kernel
theorem dX6_append_55 : decode cX6_append 55 = .ok (.iload 5, 2) := by decide +kernel
theorem dX6_append_57 : decode cX6_append 57 = .ok (.invokevirtual 124, 3) := by decide +kernel
theorem dX6_append_60 : decode cX6_append 60 = .ok (.iconst 0, 1) := by decide +kernel
theorem dX6_append_61 : decode cX6_append 61 = .ok (.istore 6, 2) := by decide +kernel
theorem dX6_append_63 : decode cX6_append 63 = .ok (.iload 6, 2) := by decide +kernel
theorem dX6_append_65 : decode cX6_append 65 = .ok (.iload 5, 2) := by decide +kernel
theorem dX6_append_67 : decode cX6_append 67 = .ok (.if_icmp .gt 25, 3) := by decide +kernel
theorem dX6_append_70 : decode cX6_append 70 = .ok (.aload_n 0, 1) := by decide +kernel
theorem dX6_append_71 : decode cX6_append 71 = .ok (.getfield 19, 3) := by decide +kernel
theorem dX6_append_74 : decode cX6_append 74 = .ok (.iload 6, 2) := by decide +kernel
theorem dX6_append_76 : decode cX6_append 76 = .ok (.aload_n 0, 1) := by decide +kernel
theorem dX6_append_77 : decode cX6_append 77 = .ok (.getfield 26, 3) := by decide +kernel
theorem dX6_append_80 : decode cX6_append 80 = .ok (.iload 6, 2) := by decide +kernel
theorem dX6_append_82 : decode cX6_append 82 = .ok (.invokevirtual 128, 3) := by decide +kernel
theorem dX6_append_85 : decode cX6_append 85 = .ok (.iastore, 1) := by decide +kernel
theorem dX6_append_86 : decode cX6_append 86 = .ok (.iinc 6 1, 3) := by decide +kernel
theorem dX6_append_89 : decode cX6_append 89 = .ok (.goto (-26), 3) := by decide +kernel
theorem dX6_append_92 : decode cX6_append 92 = .ok (.aload_n 0, 1) := by decide +kernel
theorem dX6_append_93 : decode cX6_append 93 = .ok (.getfield 35, 3) := by decide +kernel
theorem dX6_append_96 : decode cX6_append 96 = .ok (.iload 4, 2) := by decide +kernel
theorem dX6_append_98 : decode cX6_append 98 = .ok (.invokevirtual 131, 3) := by decide +kernel
theorem dX6_append_101 : decode cX6_append 101 = .ok (.return_, 1) := by decide +kernel
theorem dX7_init_0 : decode cX7_init 0 = .ok (.aload_n 0, 1) := by decide +kernel
theorem dX7_init_1 : decode cX7_init 1 = .ok (.invokespecial 3, 3) := by decide +kernel
theorem dX7_init_4 : decode cX7_init 4 = .ok (.aload_n 0, 1) := by decide +kernel
theorem dX7_init_5 : decode cX7_init 5 = .ok (.iconst 0, 1) := by decide +kernel
theorem dX7_init_6 : decode cX7_init 6 = .ok (.putfield 9, 3) := by decide +kernel
theorem dX7_init_9 : decode cX7_init 9 = .ok (.aload_n 0, 1) := by decide +kernel
theorem dX7_init_10 : decode cX7_init 10 = .ok (.iload_n 1, 1) := by decide +kernel
theorem dX7_init_11 : decode cX7_init 11 = .ok (.iconst 0, 1) := by decide +kernel
theorem dX7_init_12 : decode cX7_init 12 = .ok (.invokestatic 15, 3) := by decide +kernel
theorem dX7_init_15 : decode cX7_init 15 = .ok (.newarray .int, 2) := by decide +kernel
theorem dX7_init_17 : decode cX7_init 17 = .ok (.putfield 21, 3) := by decide +kernel
theorem dX7_init_20 : decode cX7_init 20 = .ok (.return_, 1) := by decide +kernel
theorem dX7_size_0 : decode cX7_size 0 = .ok (.aload_n 0, 1) := by decide +kernel
theorem dX7_size_1 : decode cX7_size 1 = .ok (.getfield 9, 3) := by decide +kernel
theorem dX7_size_4 : decode cX7_size 4 = .ok (.ireturn, 1) := by decide +kernel
theorem dX7_at_0 : decode cX7_at 0 = .ok (.iload_n 1, 1) := by decide +kernel
theorem dX7_at_1 : decode cX7_at 1 = .ok (.ifCond .lt 20, 3) := by decide +kernel
theorem dX7_at_4 : decode cX7_at 4 = .ok (.iload_n 1, 1) := by decide +kernel
theorem dX7_at_5 : decode cX7_at 5 = .ok (.aload_n 0, 1) := by decide +kernel
theorem dX7_at_6 : decode cX7_at 6 = .ok (.getfield 9, 3) := by decide +kernel
theorem dX7_at_9 : decode cX7_at 9 = .ok (.if_icmp .ge 12, 3) := by decide +kernel
theorem dX7_at_12 : decode cX7_at 12 = .ok (.aload_n 0, 1) := by decide +kernel
theorem dX7_at_13 : decode cX7_at 13 = .ok (.getfield 21, 3) := by decide +kernel
theorem dX7_at_16 : decode cX7_at 16 = .ok (.iload_n 1, 1) := by decide +kernel
theorem dX7_at_17 : decode cX7_at 17 = .ok (.iaload, 1) := by decide +kernel
theorem dX7_at_18 : decode cX7_at 18 = .ok (.goto 4, 3) := by decide +kernel
theorem dX7_at_21 : decode cX7_at 21 = .ok (.iconst (-1), 1) := by decide +kernel
theorem dX7_at_22 : decode cX7_at 22 = .ok (.ireturn, 1) := by decide +kernel
theorem dX7_add_0 : decode cX7_add 0 = .ok (.aload_n 0, 1) := by decide +kernel
theorem dX7_add_1 : decode cX7_add 1 = .ok (.getfield 9, 3) := by decide +kernel
theorem dX7_add_4 : decode cX7_add 4 = .ok (.aload_n 0, 1) := by decide +kernel
theorem dX7_add_5 : decode cX7_add 5 = .ok (.getfield 21, 3) := by decide +kernel
theorem dX7_add_8 : decode cX7_add 8 = .ok (.arraylength, 1) := by decide +kernel
theorem dX7_add_9 : decode cX7_add 9 = .ok (.if_icmp .ge 23, 3) := by decide +kernel
theorem dX7_add_12 : decode cX7_add 12 = .ok (.aload_n 0, 1) := by decide +kernel
theorem dX7_add_13 : decode cX7_add 13 = .ok (.getfield 21, 3) := by decide +kernel
theorem dX7_add_16 : decode cX7_add 16 = .ok (.aload_n 0, 1) := by decide +kernel
theorem dX7_add_17 : decode cX7_add 17 = .ok (.getfield 9, 3) := by decide +kernel
theorem dX7_add_20 : decode cX7_add 20 = .ok (.iload_n 1, 1) := by decide +kernel
theorem dX7_add_21 : decode cX7_add 21 = .ok (.iastore, 1) := by decide +kernel
theorem dX7_add_22 : decode cX7_add 22 = .ok (.aload_n 0, 1) := by decide +kernel
theorem dX7_add_23 : decode cX7_add 23 = .ok (.dup, 1) := by decide +kernel
theorem dX7_add_24 : decode cX7_add 24 = .ok (.getfield 9, 3) := by decide +kernel
theorem dX7_add_27 : decode cX7_add 27 = .ok (.iconst 1, 1) := by decide +kernel
theorem dX7_add_28 : decode cX7_add 28 = .ok (.iadd, 1) := by decide +kernel
theorem dX7_add_29 : decode cX7_add 29 = .ok (.putfield 9, 3) := by decide +kernel
theorem dX7_add_32 : decode cX7_add 32 = .ok (.return_, 1) := by decide +kernel
theorem dX7_clear_0 : decode cX7_clear 0 = .ok (.aload_n 0, 1) := by decide +kernel
theorem dX7_clear_1 : decode cX7_clear 1 = .ok (.iconst 0, 1) := by decide +kernel
theorem dX7_clear_2 : decode cX7_clear 2 = .ok (.putfield 9, 3) := by decide +kernel
theorem dX7_clear_5 : decode cX7_clear 5 = .ok (.return_, 1) := by decide +kernel
theorem dX8_init_0 : decode cX8_init 0 = .ok (.aload_n 0, 1) := by decide +kernel
theorem dX8_init_1 : decode cX8_init 1 = .ok (.invokespecial 3, 3) := by decide +kernel
theorem dX8_init_4 : decode cX8_init 4 = .ok (.aload_n 0, 1) := by decide +kernel
theorem dX8_init_5 : decode cX8_init 5 = .ok (.bipush 41, 2) := by decide +kernel
theorem dX8_init_7 : decode cX8_init 7 = .ok (.newarray .int, 2) := by decide +kernel
theorem dX8_init_9 : decode cX8_init 9 = .ok (.putfield 9, 3) := by decide +kernel
theorem dX8_init_12 : decode cX8_init 12 = .ok (.aload_n 0, 1) := by decide +kernel
theorem dX8_init_13 : decode cX8_init 13 = .ok (.bipush 41, 2) := by decide +kernel
theorem dX8_init_15 : decode cX8_init 15 = .ok (.newarray .int, 2) := by decide +kernel
theorem dX8_init_17 : decode cX8_init 17 = .ok (.putfield 15, 3) := by decide +kernel
theorem dX8_init_20 : decode cX8_init 20 = .ok (.aload_n 0, 1) := by decide +kernel
theorem dX8_init_21 : decode cX8_init 21 = .ok (.iconst 4, 1) := by decide +kernel
theorem dX8_init_22 : decode cX8_init 22 = .ok (.newarray .int, 2) := by decide +kernel
theorem dX8_init_24 : decode cX8_init 24 = .ok (.putfield 18, 3) := by decide +kernel
theorem dX8_init_27 : decode cX8_init 27 = .ok (.return_, 1) := by decide +kernel
theorem dX8_startNowhere_0 : decode cX8_startNowhere 0 = .ok (.aload_n 0, 1) := by decide +kernel
theorem dX8_startNowhere_1 : decode cX8_startNowhere 1 = .ok (.getfield 9, 3) := by decide +kernel
theorem dX8_startNowhere_4 : decode cX8_startNowhere 4 = .ok (.ldc 21, 2) := by decide +kernel
theorem dX8_startNowhere_6 : decode cX8_startNowhere 6 = .ok (.invokestatic 22, 3) := by decide +kernel
theorem dX8_startNowhere_9 : decode cX8_startNowhere 9 = .ok (.return_, 1) := by decide +kernel
theorem dX8_start_0 : decode cX8_start 0 = .ok (.aload_n 0, 1) := by decide +kernel
theorem dX8_start_1 : decode cX8_start 1 = .ok (.getfield 9, 3) := by decide +kernel
theorem dX8_start_4 : decode cX8_start 4 = .ok (.iload_n 1, 1) := by decide +kernel
theorem dX8_start_5 : decode cX8_start 5 = .ok (.ldc 21, 2) := by decide +kernel
theorem dX8_start_7 : decode cX8_start 7 = .ok (.iload_n 2, 1) := by decide +kernel
theorem dX8_start_8 : decode cX8_start 8 = .ok (.invokestatic 28, 3) := by decide +kernel
theorem dX8_start_11 : decode cX8_start 11 = .ok (.iastore, 1) := by decide +kernel
theorem dX8_start_12 : decode cX8_start 12 = .ok (.return_, 1) := by decide +kernel
theorem dX8_endAt_0 : decode cX8_endAt 0 = .ok (.aload_n 0, 1) := by decide +kernel
theorem dX8_endAt_1 : decode cX8_endAt 1 = .ok (.getfield 15, 3) := by decide +kernel
theorem dX8_endAt_4 : decode cX8_endAt 4 = .ok (.iload_n 1, 1) := by decide +kernel
theorem dX8_endAt_5 : decode cX8_endAt 5 = .ok (.iaload, 1) := by decide +kernel
theorem dX8_endAt_6 : decode cX8_endAt 6 = .ok (.ireturn, 1) := by decide +kernel
theorem dX8_run_0 : decode cX8_run 0 = .ok (.aload_n 0, 1) := by decide +kernel
theorem dX8_run_1 : decode cX8_run 1 = .ok (.getfield 15, 3) := by decide +kernel
theorem dX8_run_4 : decode cX8_run 4 = .ok (.ldc 21, 2) := by decide +kernel
theorem dX8_run_6 : decode cX8_run 6 = .ok (.invokestatic 22, 3) := by decide +kernel
theorem dX8_run_9 : decode cX8_run 9 = .ok (.iconst 0, 1) := by decide +kernel
theorem dX8_run_10 : decode cX8_run 10 = .ok (.istore 6, 2) := by decide +kernel
theorem dX8_run_12 : decode cX8_run 12 = .ok (.iload 6, 2) := by decide +kernel
theorem dX8_run_14 : decode cX8_run 14 = .ok (.aload_n 2, 1) := by decide +kernel
theorem dX8_run_15 : decode cX8_run 15 = .ok (.iload_n 3, 1) := by decide +kernel
theorem dX8_run_16 : decode cX8_run 16 = .ok (.invokevirtual 34, 3) := by decide +kernel
theorem dX8_run_19 : decode cX8_run 19 = .ok (.if_icmp .ge 85, 3) := by decide +kernel
theorem dX8_run_22 : decode cX8_run 22 = .ok (.aload_n 2, 1) := by decide +kernel
theorem dX8_run_23 : decode cX8_run 23 = .ok (.iload_n 3, 1) := by decide +kernel
theorem dX8_run_24 : decode cX8_run 24 = .ok (.iload 6, 2) := by decide +kernel
theorem dX8_run_26 : decode cX8_run 26 = .ok (.invokevirtual 40, 3) := by decide +kernel
theorem dX8_run_29 : decode cX8_run 29 = .ok (.iconst 1, 1) := by decide +kernel
theorem dX8_run_30 : decode cX8_run 30 = .ok (.isub, 1) := by decide +kernel
theorem dX8_run_31 : decode cX8_run 31 = .ok (.istore 7, 2) := by decide +kernel
theorem dX8_run_33 : decode cX8_run 33 = .ok (.aload_n 0, 1) := by decide +kernel
theorem dX8_run_34 : decode cX8_run 34 = .ok (.getfield 18, 3) := by decide +kernel
theorem dX8_run_37 : decode cX8_run 37 = .ok (.ldc 21, 2) := by decide +kernel
theorem dX8_run_39 : decode cX8_run 39 = .ok (.invokestatic 22, 3) := by decide +kernel
theorem dX8_run_42 : decode cX8_run 42 = .ok (.iload 4, 2) := by decide +kernel
theorem dX8_run_44 : decode cX8_run 44 = .ok (.istore 8, 2) := by decide +kernel
theorem dX8_run_46 : decode cX8_run 46 = .ok (.iload 8, 2) := by decide +kernel
theorem dX8_run_48 : decode cX8_run 48 = .ok (.iload 5, 2) := by decide +kernel
theorem dX8_run_50 : decode cX8_run 50 = .ok (.if_icmp .ge 48, 3) := by decide +kernel
theorem dX8_run_53 : decode cX8_run 53 = .ok (.aload_n 0, 1) := by decide +kernel
theorem dX8_run_54 : decode cX8_run 54 = .ok (.aload_n 1, 1) := by decide +kernel
theorem dX8_run_55 : decode cX8_run 55 = .ok (.aload_n 2, 1) := by decide +kernel
theorem dX8_run_56 : decode cX8_run 56 = .ok (.iload_n 3, 1) := by decide +kernel
theorem dX8_run_57 : decode cX8_run 57 = .ok (.iload 6, 2) := by decide +kernel
theorem dX8_run_59 : decode cX8_run 59 = .ok (.iload 8, 2) := by decide +kernel
theorem dX8_run_61 : decode cX8_run 61 = .ok (.invokevirtual 43, 3) := by decide +kernel
theorem dX8_run_64 : decode cX8_run 64 = .ok (.aload_n 0, 1) := by decide +kernel
theorem dX8_run_65 : decode cX8_run 65 = .ok (.getfield 15, 3) := by decide +kernel
theorem dX8_run_68 : decode cX8_run 68 = .ok (.iload 8, 2) := by decide +kernel
theorem dX8_run_70 : decode cX8_run 70 = .ok (.iconst 1, 1) := by decide +kernel
theorem dX8_run_71 : decode cX8_run 71 = .ok (.iadd, 1) := by decide +kernel
theorem dX8_run_72 : decode cX8_run 72 = .ok (.aload_n 0, 1) := by decide +kernel
theorem dX8_run_73 : decode cX8_run 73 = .ok (.getfield 15, 3) := by decide +kernel
theorem dX8_run_76 : decode cX8_run 76 = .ok (.iload 8, 2) := by decide +kernel
theorem dX8_run_78 : decode cX8_run 78 = .ok (.iconst 1, 1) := by decide +kernel
theorem dX8_run_79 : decode cX8_run 79 = .ok (.iadd, 1) := by decide +kernel
theorem dX8_run_80 : decode cX8_run 80 = .ok (.iaload, 1) := by decide +kernel
theorem dX8_run_81 : decode cX8_run 81 = .ok (.aload_n 0, 1) := by decide +kernel
theorem dX8_run_82 : decode cX8_run 82 = .ok (.getfield 18, 3) := by decide +kernel
theorem dX8_run_85 : decode cX8_run 85 = .ok (.iload 7, 2) := by decide +kernel
theorem dX8_run_87 : decode cX8_run 87 = .ok (.iaload, 1) := by decide +kernel
theorem dX8_run_88 : decode cX8_run 88 = .ok (.invokestatic 28, 3) := by decide +kernel
theorem dX8_run_91 : decode cX8_run 91 = .ok (.iastore, 1) := by decide +kernel
theorem dX8_run_92 : decode cX8_run 92 = .ok (.iinc 8 1, 3) := by decide +kernel
theorem dX8_run_95 : decode cX8_run 95 = .ok (.goto (-49), 3) := by decide +kernel
theorem dX8_run_98 : decode cX8_run 98 = .ok (.iinc 6 1, 3) := by decide +kernel
theorem dX8_run_101 : decode cX8_run 101 = .ok (.goto (-89), 3) := by decide +kernel
theorem dX8_run_104 : decode cX8_run 104 = .ok (.return_, 1) := by decide +kernel
theorem dX8_step_0 : decode cX8_step 0 = .ok (.aload_n 2, 1) := by decide +kernel
theorem dX8_step_1 : decode cX8_step 1 = .ok (.iload_n 3, 1) := by decide +kernel
theorem dX8_step_2 : decode cX8_step 2 = .ok (.iload 4, 2) := by decide +kernel
theorem dX8_step_4 : decode cX8_step 4 = .ok (.invokevirtual 40, 3) := by decide +kernel
theorem dX8_step_7 : decode cX8_step 7 = .ok (.iconst 1, 1) := by decide +kernel
theorem dX8_step_8 : decode cX8_step 8 = .ok (.isub, 1) := by decide +kernel
theorem dX8_step_9 : decode cX8_step 9 = .ok (.istore 6, 2) := by decide +kernel
theorem dX8_step_11 : decode cX8_step 11 = .ok (.iload 6, 2) := by decide +kernel
theorem dX8_step_13 : decode cX8_step 13 = .ok (.ifCond .lt 84, 3) := by decide +kernel
theorem dX8_step_16 : decode cX8_step 16 = .ok (.iload 6, 2) := by decide +kernel
theorem dX8_step_18 : decode cX8_step 18 = .ok (.ifCond .ne 13, 3) := by decide +kernel
theorem dX8_step_21 : decode cX8_step 21 = .ok (.aload_n 0, 1) := by decide +kernel
theorem dX8_step_22 : decode cX8_step 22 = .ok (.getfield 9, 3) := by decide +kernel
theorem dX8_step_25 : decode cX8_step 25 = .ok (.iload 5, 2) := by decide +kernel
theorem dX8_step_27 : decode cX8_step 27 = .ok (.iaload, 1) := by decide +kernel
theorem dX8_step_28 : decode cX8_step 28 = .ok (.goto 12, 3) := by decide +kernel
theorem dX8_step_31 : decode cX8_step 31 = .ok (.aload_n 0, 1) := by decide +kernel
theorem dX8_step_32 : decode cX8_step 32 = .ok (.getfield 18, 3) := by decide +kernel
theorem dX8_step_35 : decode cX8_step 35 = .ok (.iload 6, 2) := by decide +kernel
theorem dX8_step_37 : decode cX8_step 37 = .ok (.iconst 1, 1) := by decide +kernel
theorem dX8_step_38 : decode cX8_step 38 = .ok (.isub, 1) := by decide +kernel
theorem dX8_step_39 : decode cX8_step 39 = .ok (.iaload, 1) := by decide +kernel
theorem dX8_step_40 : decode cX8_step 40 = .ok (.istore 7, 2) := by decide +kernel
theorem dX8_step_42 : decode cX8_step 42 = .ok (.iload 7, 2) := by decide +kernel
theorem dX8_step_44 : decode cX8_step 44 = .ok (.aload_n 0, 1) := by decide +kernel
theorem dX8_step_45 : decode cX8_step 45 = .ok (.getfield 18, 3) := by decide +kernel
theorem dX8_step_48 : decode cX8_step 48 = .ok (.iload 6, 2) := by decide +kernel
theorem dX8_step_50 : decode cX8_step 50 = .ok (.iaload, 1) := by decide +kernel
theorem dX8_step_51 : decode cX8_step 51 = .ok (.aload_n 1, 1) := by decide +kernel
theorem dX8_step_52 : decode cX8_step 52 = .ok (.invokevirtual 47, 3) := by decide +kernel
theorem dX8_step_55 : decode cX8_step 55 = .ok (.iadd, 1) := by decide +kernel
theorem dX8_step_56 : decode cX8_step 56 = .ok (.invokestatic 28, 3) := by decide +kernel
theorem dX8_step_59 : decode cX8_step 59 = .ok (.istore 8, 2) := by decide +kernel
theorem dX8_step_61 : decode cX8_step 61 = .ok (.aload_n 0, 1) := by decide +kernel
theorem dX8_step_62 : decode cX8_step 62 = .ok (.getfield 18, 3) := by decide +kernel
theorem dX8_step_65 : decode cX8_step 65 = .ok (.iload 6, 2) := by decide +kernel
theorem dX8_step_67 : decode cX8_step 67 = .ok (.ldc 21, 2) := by decide +kernel
theorem dX8_step_69 : decode cX8_step 69 = .ok (.iload 8, 2) := by decide +kernel
theorem dX8_step_71 : decode cX8_step 71 = .ok (.aload_n 1, 1) := by decide +kernel
theorem dX8_step_72 : decode cX8_step 72 = .ok (.aload_n 2, 1) := by decide +kernel
theorem dX8_step_73 : decode cX8_step 73 = .ok (.iload_n 3, 1) := by decide +kernel
theorem dX8_step_74 : decode cX8_step 74 = .ok (.iload 4, 2) := by decide +kernel
theorem dX8_step_76 : decode cX8_step 76 = .ok (.iload 6, 2) := by decide +kernel
theorem dX8_step_78 : decode cX8_step 78 = .ok (.invokevirtual 53, 3) := by decide +kernel
theorem dX8_step_81 : decode cX8_step 81 = .ok (.iload 5, 2) := by decide +kernel
theorem dX8_step_83 : decode cX8_step 83 = .ok (.invokevirtual 57, 3) := by decide +kernel
theorem dX8_step_86 : decode cX8_step 86 = .ok (.iadd, 1) := by decide +kernel
theorem dX8_step_87 : decode cX8_step 87 = .ok (.invokestatic 28, 3) := by decide +kernel
theorem dX8_step_90 : decode cX8_step 90 = .ok (.iastore, 1) := by decide +kernel
theorem dX8_step_91 : decode cX8_step 91 = .ok (.iinc 6 (-1), 3) := by decide +kernel
theorem dX8_step_94 : decode cX8_step 94 = .ok (.goto (-83), 3) := by decide +kernel
theorem dX8_step_97 : decode cX8_step 97 = .ok (.return_, 1) := by decide +kernel
theorem dX9_init_0 : decode cX9_init 0 = .ok (.aload_n 0, 1) := by decide +kernel
theorem dX9_init_1 : decode cX9_init 1 = .ok (.invokespecial 3, 3) := by decide +kernel
theorem dX9_init_4 : decode cX9_init 4 = .ok (.aload_n 0, 1) := by decide +kernel
theorem dX9_init_5 : decode cX9_init 5 = .ok (.new 9, 3) := by decide +kernel
theorem dX9_init_8 : decode cX9_init 8 = .ok (.dup, 1) := by decide +kernel
theorem dX9_init_9 : decode cX9_init 9 = .ok (.invokespecial 11, 3) := by decide +kernel
theorem dX9_init_12 : decode cX9_init 12 = .ok (.putfield 12, 3) := by decide +kernel
theorem dX9_init_15 : decode cX9_init 15 = .ok (.aload_n 0, 1) := by decide +kernel
theorem dX9_init_16 : decode cX9_init 16 = .ok (.iconst 0, 1) := by decide +kernel
theorem dX9_init_17 : decode cX9_init 17 = .ok (.putfield 18, 3) := by decide +kernel
theorem dX9_init_20 : decode cX9_init 20 = .ok (.aload_n 0, 1) := by decide +kernel
theorem dX9_init_21 : decode cX9_init 21 = .ok (.iconst 0, 1) := by decide +kernel
theorem dX9_init_22 : decode cX9_init 22 = .ok (.putfield 22, 3) := by decide +kernel
theorem dX9_init_25 : decode cX9_init 25 = .ok (.aload_n 0, 1) := by decide +kernel
theorem dX9_init_26 : decode cX9_init 26 = .ok (.iconst 0, 1) := by decide +kernel
theorem dX9_init_27 : decode cX9_init 27 = .ok (.putfield 25, 3) := by decide +kernel
theorem dX9_init_30 : decode cX9_init 30 = .ok (.return_, 1) := by decide +kernel
theorem dX9_begin_0 : decode cX9_begin 0 = .ok (.aload_n 0, 1) := by decide +kernel
theorem dX9_begin_1 : decode cX9_begin 1 = .ok (.getfield 18, 3) := by decide +kernel
theorem dX9_begin_4 : decode cX9_begin 4 = .ok (.ireturn, 1) := by decide +kernel
theorem dX9_end_0 : decode cX9_end 0 = .ok (.aload_n 0, 1) := by decide +kernel
theorem dX9_end_1 : decode cX9_end 1 = .ok (.getfield 22, 3) := by decide +kernel
theorem dX9_end_4 : decode cX9_end 4 = .ok (.ireturn, 1) := by decide +kernel
theorem dX9_price_0 : decode cX9_price 0 = .ok (.aload_n 0, 1) := by decide +kernel
theorem dX9_price_1 : decode cX9_price 1 = .ok (.getfield 25, 3) := by decide +kernel
theorem dX9_price_4 : decode cX9_price 4 = .ok (.ireturn, 1) := by decide +kernel
theorem dX9_find_0 : decode cX9_find 0 = .ok (.iconst 0, 1) := by decide +kernel
theorem dX9_find_1 : decode cX9_find 1 = .ok (.istore 4, 2) := by decide +kernel
theorem dX9_find_3 : decode cX9_find 3 = .ok (.iconst 0, 1) := by decide +kernel
theorem dX9_find_4 : decode cX9_find 4 = .ok (.istore 5, 2) := by decide +kernel
theorem dX9_find_6 : decode cX9_find 6 = .ok (.iload 5, 2) := by decide +kernel
theorem dX9_find_8 : decode cX9_find 8 = .ok (.aload_n 1, 1) := by decide +kernel
theorem dX9_find_9 : decode cX9_find 9 = .ok (.invokevirtual 28, 3) := by decide +kernel
theorem dX9_find_12 : decode cX9_find 12 = .ok (.if_icmp .ge 131, 3) := by decide +kernel
theorem dX9_find_15 : decode cX9_find 15 = .ok (.aload_n 1, 1) := by decide +kernel
theorem dX9_find_16 : decode cX9_find 16 = .ok (.invokevirtual 28, 3) := by decide +kernel
theorem dX9_find_19 : decode cX9_find 19 = .ok (.iload 5, 2) := by decide +kernel
theorem dX9_find_21 : decode cX9_find 21 = .ok (.bipush 20, 2) := by decide +kernel
theorem dX9_find_23 : decode cX9_find 23 = .ok (.iadd, 1) := by decide +kernel
theorem dX9_find_24 : decode cX9_find 24 = .ok (.invokestatic 34, 3) := by decide +kernel
theorem dX9_find_27 : decode cX9_find 27 = .ok (.istore 6, 2) := by decide +kernel
theorem dX9_find_29 : decode cX9_find 29 = .ok (.aload_n 0, 1) := by decide +kernel
theorem dX9_find_30 : decode cX9_find 30 = .ok (.getfield 12, 3) := by decide +kernel
theorem dX9_find_33 : decode cX9_find 33 = .ok (.invokevirtual 40, 3) := by decide +kernel
theorem dX9_find_36 : decode cX9_find 36 = .ok (.aload_n 0, 1) := by decide +kernel
theorem dX9_find_37 : decode cX9_find 37 = .ok (.getfield 12, 3) := by decide +kernel
theorem dX9_find_40 : decode cX9_find 40 = .ok (.iload 5, 2) := by decide +kernel
theorem dX9_find_42 : decode cX9_find 42 = .ok (.iconst 0, 1) := by decide +kernel
theorem dX9_find_43 : decode cX9_find 43 = .ok (.invokevirtual 43, 3) := by decide +kernel
theorem dX9_find_46 : decode cX9_find 46 = .ok (.aload_n 0, 1) := by decide +kernel
theorem dX9_find_47 : decode cX9_find 47 = .ok (.getfield 12, 3) := by decide +kernel
theorem dX9_find_50 : decode cX9_find 50 = .ok (.aload_n 1, 1) := by decide +kernel
theorem dX9_find_51 : decode cX9_find 51 = .ok (.aload_n 2, 1) := by decide +kernel
theorem dX9_find_52 : decode cX9_find 52 = .ok (.iload_n 3, 1) := by decide +kernel
theorem dX9_find_53 : decode cX9_find 53 = .ok (.iload 5, 2) := by decide +kernel
theorem dX9_find_55 : decode cX9_find 55 = .ok (.iload 6, 2) := by decide +kernel
theorem dX9_find_57 : decode cX9_find 57 = .ok (.invokevirtual 47, 3) := by decide +kernel
theorem dX9_find_60 : decode cX9_find 60 = .ok (.iload 5, 2) := by decide +kernel
theorem dX9_find_62 : decode cX9_find 62 = .ok (.iconst 1, 1) := by decide +kernel
theorem dX9_find_63 : decode cX9_find 63 = .ok (.iadd, 1) := by decide +kernel
theorem dX9_find_64 : decode cX9_find 64 = .ok (.istore 7, 2) := by decide +kernel
theorem dX9_find_66 : decode cX9_find 66 = .ok (.iload 7, 2) := by decide +kernel
theorem dX9_find_68 : decode cX9_find 68 = .ok (.iload 6, 2) := by decide +kernel
theorem dX9_find_70 : decode cX9_find 70 = .ok (.if_icmp .gt 67, 3) := by decide +kernel
theorem dX9_find_73 : decode cX9_find 73 = .ok (.aload_n 0, 1) := by decide +kernel
theorem dX9_find_74 : decode cX9_find 74 = .ok (.getfield 12, 3) := by decide +kernel
theorem dX9_find_77 : decode cX9_find 77 = .ok (.iload 7, 2) := by decide +kernel
theorem dX9_find_79 : decode cX9_find 79 = .ok (.invokevirtual 51, 3) := by decide +kernel
theorem dX9_find_82 : decode cX9_find 82 = .ok (.istore 8, 2) := by decide +kernel
theorem dX9_find_84 : decode cX9_find 84 = .ok (.iload 8, 2) := by decide +kernel
theorem dX9_find_86 : decode cX9_find 86 = .ok (.ldc 55, 2) := by decide +kernel
theorem dX9_find_88 : decode cX9_find 88 = .ok (.if_icmp .ge 43, 3) := by decide +kernel
theorem dX9_find_91 : decode cX9_find 91 = .ok (.iload 4, 2) := by decide +kernel
theorem dX9_find_93 : decode cX9_find 93 = .ok (.ifCond .eq 17, 3) := by decide +kernel
theorem dX9_find_96 : decode cX9_find 96 = .ok (.aload_n 0, 1) := by decide +kernel
theorem dX9_find_97 : decode cX9_find 97 = .ok (.iload 8, 2) := by decide +kernel
theorem dX9_find_99 : decode cX9_find 99 = .ok (.iload 7, 2) := by decide +kernel
theorem dX9_find_101 : decode cX9_find 101 = .ok (.iload 5, 2) := by decide +kernel
theorem dX9_find_103 : decode cX9_find 103 = .ok (.isub, 1) := by decide +kernel
theorem dX9_find_104 : decode cX9_find 104 = .ok (.invokevirtual 56, 3) := by decide +kernel
theorem dX9_find_107 : decode cX9_find 107 = .ok (.ifCond .eq 24, 3) := by decide +kernel
theorem dX9_find_110 : decode cX9_find 110 = .ok (.aload_n 0, 1) := by decide +kernel
theorem dX9_find_111 : decode cX9_find 111 = .ok (.iload 5, 2) := by decide +kernel
theorem dX9_find_113 : decode cX9_find 113 = .ok (.putfield 18, 3) := by decide +kernel
theorem dX9_find_116 : decode cX9_find 116 = .ok (.aload_n 0, 1) := by decide +kernel
theorem dX9_find_117 : decode cX9_find 117 = .ok (.iload 7, 2) := by decide +kernel
theorem dX9_find_119 : decode cX9_find 119 = .ok (.putfield 22, 3) := by decide +kernel
theorem dX9_find_122 : decode cX9_find 122 = .ok (.aload_n 0, 1) := by decide +kernel
theorem dX9_find_123 : decode cX9_find 123 = .ok (.iload 8, 2) := by decide +kernel
theorem dX9_find_125 : decode cX9_find 125 = .ok (.putfield 25, 3) := by decide +kernel
theorem dX9_find_128 : decode cX9_find 128 = .ok (.iconst 1, 1) := by decide +kernel
theorem dX9_find_129 : decode cX9_find 129 = .ok (.istore 4, 2) := by decide +kernel
theorem dX9_find_131 : decode cX9_find 131 = .ok (.iinc 7 1, 3) := by decide +kernel
theorem dX9_find_134 : decode cX9_find 134 = .ok (.goto (-68), 3) := by decide +kernel
theorem dX9_find_137 : decode cX9_find 137 = .ok (.iinc 5 1, 3) := by decide +kernel
theorem dX9_find_140 : decode cX9_find 140 = .ok (.goto (-134), 3) := by decide +kernel
theorem dX9_find_143 : decode cX9_find 143 = .ok (.iload 4, 2) := by decide +kernel
theorem dX9_find_145 : decode cX9_find 145 = .ok (.ireturn, 1) := by decide +kernel
theorem dX9_isCheaper_0 : decode cX9_isCheaper 0 = .ok (.iload_n 1, 1) := by decide +kernel
theorem dX9_isCheaper_1 : decode cX9_isCheaper 1 = .ok (.aload_n 0, 1) := by decide +kernel
theorem dX9_isCheaper_2 : decode cX9_isCheaper 2 = .ok (.getfield 22, 3) := by decide +kernel
theorem dX9_isCheaper_5 : decode cX9_isCheaper 5 = .ok (.aload_n 0, 1) := by decide +kernel
theorem dX9_isCheaper_6 : decode cX9_isCheaper 6 = .ok (.getfield 18, 3) := by decide +kernel
theorem dX9_isCheaper_9 : decode cX9_isCheaper 9 = .ok (.isub, 1) := by decide +kernel
theorem dX9_isCheaper_10 : decode cX9_isCheaper 10 = .ok (.imul, 1) := by decide +kernel
theorem dX9_isCheaper_11 : decode cX9_isCheaper 11 = .ok (.aload_n 0, 1) := by decide +kernel
theorem dX9_isCheaper_12 : decode cX9_isCheaper 12 = .ok (.getfield 25, 3) := by decide +kernel
theorem dX9_isCheaper_15 : decode cX9_isCheaper 15 = .ok (.iload_n 2, 1) := by decide +kernel
theorem dX9_isCheaper_16 : decode cX9_isCheaper 16 = .ok (.imul, 1) := by decide +kernel
theorem dX9_isCheaper_17 : decode cX9_isCheaper 17 = .ok (.if_icmp .ge 7, 3) := by decide +kernel
theorem dX9_isCheaper_20 : decode cX9_isCheaper 20 = .ok (.iconst 1, 1) := by decide +kernel
theorem dX9_isCheaper_21 : decode cX9_isCheaper 21 = .ok (.goto 4, 3) := by decide +kernel
theorem dX9_isCheaper_24 : decode cX9_isCheaper 24 = .ok (.iconst 0, 1) := by decide +kernel
theorem dX9_isCheaper_25 : decode cX9_isCheaper 25 = .ok (.ireturn, 1) := by decide +kernel
theorem dX10_init_0 : decode cX10_init 0 = .ok (.aload_n 0, 1) := by decide +kernel
theorem dX10_init_1 : decode cX10_init 1 = .ok (.invokespecial 1, 3) := by decide +kernel
theorem dX10_init_4 : decode cX10_init 4 = .ok (.aload_n 0, 1) := by decide +kernel
theorem dX10_init_5 : decode cX10_init 5 = .ok (.new 7, 3) := by decide +kernel
theorem dX10_init_8 : decode cX10_init 8 = .ok (.dup, 1) := by decide +kernel
theorem dX10_init_9 : decode cX10_init 9 = .ok (.invokespecial 9, 3) := by decide +kernel
theorem dX10_init_12 : decode cX10_init 12 = .ok (.putfield 10, 3) := by decide +kernel
theorem dX10_init_15 : decode cX10_init 15 = .ok (.aload_n 0, 1) := by decide +kernel
theorem dX10_init_16 : decode cX10_init 16 = .ok (.new 16, 3) := by decide +kernel
theorem dX10_init_19 : decode cX10_init 19 = .ok (.dup, 1) := by decide +kernel
theorem dX10_init_20 : decode cX10_init 20 = .ok (.invokespecial 18, 3) := by decide +kernel
theorem dX10_init_23 : decode cX10_init 23 = .ok (.putfield 19, 3) := by decide +kernel
theorem dX10_init_26 : decode cX10_init 26 = .ok (.aload_n 0, 1) := by decide +kernel
theorem dX10_init_27 : decode cX10_init 27 = .ok (.new 23, 3) := by decide +kernel
theorem dX10_init_30 : decode cX10_init 30 = .ok (.dup, 1) := by decide +kernel
theorem dX10_init_31 : decode cX10_init 31 = .ok (.invokespecial 25, 3) := by decide +kernel
theorem dX10_init_34 : decode cX10_init 34 = .ok (.putfield 26, 3) := by decide +kernel
theorem dX10_init_37 : decode cX10_init 37 = .ok (.aload_n 0, 1) := by decide +kernel
theorem dX10_init_38 : decode cX10_init 38 = .ok (.new 30, 3) := by decide +kernel
theorem dX10_init_41 : decode cX10_init 41 = .ok (.dup, 1) := by decide +kernel
theorem dX10_init_42 : decode cX10_init 42 = .ok (.bipush 12, 2) := by decide +kernel
theorem dX10_init_44 : decode cX10_init 44 = .ok (.invokespecial 32, 3) := by decide +kernel
theorem dX10_init_47 : decode cX10_init 47 = .ok (.putfield 35, 3) := by decide +kernel
theorem dX10_init_50 : decode cX10_init 50 = .ok (.aload_n 0, 1) := by decide +kernel
theorem dX10_init_51 : decode cX10_init 51 = .ok (.new 39, 3) := by decide +kernel
theorem dX10_init_54 : decode cX10_init 54 = .ok (.dup, 1) := by decide +kernel
theorem dX10_init_55 : decode cX10_init 55 = .ok (.invokespecial 41, 3) := by decide +kernel
theorem dX10_init_58 : decode cX10_init 58 = .ok (.putfield 42, 3) := by decide +kernel
theorem dX10_init_61 : decode cX10_init 61 = .ok (.aload_n 0, 1) := by decide +kernel
theorem dX10_init_62 : decode cX10_init 62 = .ok (.new 46, 3) := by decide +kernel
theorem dX10_init_65 : decode cX10_init 65 = .ok (.dup, 1) := by decide +kernel
theorem dX10_init_66 : decode cX10_init 66 = .ok (.invokespecial 48, 3) := by decide +kernel
theorem dX10_init_69 : decode cX10_init 69 = .ok (.putfield 49, 3) := by decide +kernel
theorem dX10_init_72 : decode cX10_init 72 = .ok (.aload_n 0, 1) := by decide +kernel
theorem dX10_init_73 : decode cX10_init 73 = .ok (.new 53, 3) := by decide +kernel
theorem dX10_init_76 : decode cX10_init 76 = .ok (.dup, 1) := by decide +kernel
theorem dX10_init_77 : decode cX10_init 77 = .ok (.invokespecial 55, 3) := by decide +kernel
theorem dX10_init_80 : decode cX10_init 80 = .ok (.putfield 56, 3) := by decide +kernel
theorem dX10_init_83 : decode cX10_init 83 = .ok (.aload_n 0, 1) := by decide +kernel
theorem dX10_init_84 : decode cX10_init 84 = .ok (.new 60, 3) := by decide +kernel
theorem dX10_init_87 : decode cX10_init 87 = .ok (.dup, 1) := by decide +kernel
theorem dX10_init_88 : decode cX10_init 88 = .ok (.invokespecial 62, 3) := by decide +kernel
theorem dX10_init_91 : decode cX10_init 91 = .ok (.putfield 63, 3) := by decide +kernel
theorem dX10_init_94 : decode cX10_init 94 = .ok (.aload_n 0, 1) := by decide +kernel
theorem dX10_init_95 : decode cX10_init 95 = .ok (.new 67, 3) := by decide +kernel
theorem dX10_init_98 : decode cX10_init 98 = .ok (.dup, 1) := by decide +kernel
theorem dX10_init_99 : decode cX10_init 99 = .ok (.invokespecial 69, 3) := by decide +kernel
theorem dX10_init_102 : decode cX10_init 102 = .ok (.putfield 70, 3) := by decide +kernel
theorem dX10_init_105 : decode cX10_init 105 = .ok (.return_, 1) := by decide +kernel
theorem dX10_feed_0 : decode cX10_feed 0 = .ok (.iload_n 1, 1) := by decide +kernel
theorem dX10_feed_1 : decode cX10_feed 1 = .ok (.iconst (-1), 1) := by decide +kernel
theorem dX10_feed_2 : decode cX10_feed 2 = .ok (.if_icmp .eq 13, 3) := by decide +kernel
theorem dX10_feed_5 : decode cX10_feed 5 = .ok (.iload_n 1, 1) := by decide +kernel
theorem dX10_feed_6 : decode cX10_feed 6 = .ok (.invokestatic 74, 3) := by decide +kernel
theorem dX10_feed_9 : decode cX10_feed 9 = .ok (.ifCond .ne 6, 3) := by decide +kernel
theorem dX10_feed_12 : decode cX10_feed 12 = .ok (.bipush (-2), 2) := by decide +kernel
theorem dX10_feed_14 : decode cX10_feed 14 = .ok (.ireturn, 1) := by decide +kernel
theorem dX10_feed_15 : decode cX10_feed 15 = .ok (.aload_n 0, 1) := by decide +kernel
theorem dX10_feed_16 : decode cX10_feed 16 = .ok (.getfield 10, 3) := by decide +kernel
theorem dX10_feed_19 : decode cX10_feed 19 = .ok (.invokevirtual 78, 3) := by decide +kernel
theorem dX10_feed_22 : decode cX10_feed 22 = .ok (.bipush 40, 2) := by decide +kernel
theorem dX10_feed_24 : decode cX10_feed 24 = .ok (.if_icmp .lt 6, 3) := by decide +kernel
theorem dX10_feed_27 : decode cX10_feed 27 = .ok (.bipush (-4), 2) := by decide +kernel
theorem dX10_feed_29 : decode cX10_feed 29 = .ok (.ireturn, 1) := by decide +kernel
theorem dX10_feed_30 : decode cX10_feed 30 = .ok (.aload_n 0, 1) := by decide +kernel
theorem dX10_feed_31 : decode cX10_feed 31 = .ok (.invokevirtual 82, 3) := by decide +kernel
theorem dX10_feed_34 : decode cX10_feed 34 = .ok (.aload_n 0, 1) := by decide +kernel
theorem dX10_feed_35 : decode cX10_feed 35 = .ok (.getfield 10, 3) := by decide +kernel
theorem dX10_feed_38 : decode cX10_feed 38 = .ok (.iload_n 1, 1) := by decide +kernel
theorem dX10_feed_39 : decode cX10_feed 39 = .ok (.invokevirtual 85, 3) := by decide +kernel
theorem dX10_feed_42 : decode cX10_feed 42 = .ok (.aload_n 0, 1) := by decide +kernel
theorem dX10_feed_43 : decode cX10_feed 43 = .ok (.getfield 10, 3) := by decide +kernel
theorem dX10_feed_46 : decode cX10_feed 46 = .ok (.invokevirtual 78, 3) := by decide +kernel
theorem dX10_feed_49 : decode cX10_feed 49 = .ok (.ireturn, 1) := by decide +kernel
theorem dX10_hush_0 : decode cX10_hush 0 = .ok (.aload_n 0, 1) := by decide +kernel
theorem dX10_hush_1 : decode cX10_hush 1 = .ok (.getfield 10, 3) := by decide +kernel
theorem dX10_hush_4 : decode cX10_hush 4 = .ok (.invokevirtual 78, 3) := by decide +kernel
theorem dX10_hush_7 : decode cX10_hush 7 = .ok (.istore_n 1, 1) := by decide +kernel
theorem dX10_hush_8 : decode cX10_hush 8 = .ok (.aload_n 0, 1) := by decide +kernel
theorem dX10_hush_9 : decode cX10_hush 9 = .ok (.invokevirtual 82, 3) := by decide +kernel
theorem dX10_hush_12 : decode cX10_hush 12 = .ok (.aload_n 0, 1) := by decide +kernel
theorem dX10_hush_13 : decode cX10_hush 13 = .ok (.getfield 10, 3) := by decide +kernel
theorem dX10_hush_16 : decode cX10_hush 16 = .ok (.invokevirtual 88, 3) := by decide +kernel
theorem dX10_hush_19 : decode cX10_hush 19 = .ok (.iload_n 1, 1) := by decide +kernel
theorem dX10_hush_20 : decode cX10_hush 20 = .ok (.ireturn, 1) := by decide +kernel
theorem dX10_cost_0 : decode cX10_cost 0 = .ok (.iload_n 1, 1) := by decide +kernel
theorem dX10_cost_1 : decode cX10_cost 1 = .ok (.invokestatic 91, 3) := by decide +kernel
theorem dX10_cost_4 : decode cX10_cost 4 = .ok (.ifCond .eq 20, 3) := by decide +kernel
theorem dX10_cost_7 : decode cX10_cost 7 = .ok (.iload_n 2, 1) := by decide +kernel
theorem dX10_cost_8 : decode cX10_cost 8 = .ok (.invokestatic 74, 3) := by decide +kernel
theorem dX10_cost_11 : decode cX10_cost 11 = .ok (.ifCond .eq 13, 3) := by decide +kernel
theorem dX10_cost_14 : decode cX10_cost 14 = .ok (.iload_n 3, 1) := by decide +kernel
theorem dX10_cost_15 : decode cX10_cost 15 = .ok (.iconst 0, 1) := by decide +kernel
theorem dX10_cost_16 : decode cX10_cost 16 = .ok (.bipush 50, 2) := by decide +kernel
theorem dX10_cost_18 : decode cX10_cost 18 = .ok (.invokestatic 94, 3) := by decide +kernel
theorem dX10_cost_21 : decode cX10_cost 21 = .ok (.ifCond .ne 6, 3) := by decide +kernel
theorem dX10_cost_24 : decode cX10_cost 24 = .ok (.bipush (-2), 2) := by decide +kernel
theorem dX10_cost_26 : decode cX10_cost 26 = .ok (.ireturn, 1) := by decide +kernel
theorem dX10_cost_27 : decode cX10_cost 27 = .ok (.aload_n 0, 1) := by decide +kernel
theorem dX10_cost_28 : decode cX10_cost 28 = .ok (.getfield 10, 3) := by decide +kernel
theorem dX10_cost_31 : decode cX10_cost 31 = .ok (.iload_n 1, 1) := by decide +kernel
theorem dX10_cost_32 : decode cX10_cost 32 = .ok (.iload_n 2, 1) := by decide +kernel
theorem dX10_cost_33 : decode cX10_cost 33 = .ok (.invokevirtual 98, 3) := by decide +kernel
theorem dX10_cost_36 : decode cX10_cost 36 = .ok (.istore 4, 2) := by decide +kernel
theorem dX10_cost_38 : decode cX10_cost 38 = .ok (.aload_n 0, 1) := by decide +kernel
theorem dX10_cost_39 : decode cX10_cost 39 = .ok (.invokevirtual 82, 3) := by decide +kernel
theorem dX10_cost_42 : decode cX10_cost 42 = .ok (.aload_n 0, 1) := by decide +kernel
theorem dX10_cost_43 : decode cX10_cost 43 = .ok (.getfield 10, 3) := by decide +kernel
theorem dX10_cost_46 : decode cX10_cost 46 = .ok (.iload_n 1, 1) := by decide +kernel
theorem dX10_cost_47 : decode cX10_cost 47 = .ok (.iload_n 2, 1) := by decide +kernel
theorem dX10_cost_48 : decode cX10_cost 48 = .ok (.iload_n 3, 1) := by decide +kernel
theorem dX10_cost_49 : decode cX10_cost 49 = .ok (.invokevirtual 102, 3) := by decide +kernel
theorem dX10_cost_52 : decode cX10_cost 52 = .ok (.iload 4, 2) := by decide +kernel
theorem dX10_cost_54 : decode cX10_cost 54 = .ok (.ireturn, 1) := by decide +kernel
theorem dX10_stay_0 : decode cX10_stay 0 = .ok (.iload_n 1, 1) := by decide +kernel
theorem dX10_stay_1 : decode cX10_stay 1 = .ok (.iconst 0, 1) := by decide +kernel
theorem dX10_stay_2 : decode cX10_stay 2 = .ok (.bipush 20, 2) := by decide +kernel
theorem dX10_stay_4 : decode cX10_stay 4 = .ok (.invokestatic 94, 3) := by decide +kernel
theorem dX10_stay_7 : decode cX10_stay 7 = .ok (.ifCond .ne 6, 3) := by decide +kernel
theorem dX10_stay_10 : decode cX10_stay 10 = .ok (.bipush (-2), 2) := by decide +kernel
theorem dX10_stay_12 : decode cX10_stay 12 = .ok (.ireturn, 1) := by decide +kernel
theorem dX10_stay_13 : decode cX10_stay 13 = .ok (.aload_n 0, 1) := by decide +kernel
theorem dX10_stay_14 : decode cX10_stay 14 = .ok (.getfield 10, 3) := by decide +kernel
theorem dX10_stay_17 : decode cX10_stay 17 = .ok (.invokevirtual 106, 3) := by decide +kernel
theorem dX10_stay_20 : decode cX10_stay 20 = .ok (.istore_n 2, 1) := by decide +kernel
theorem dX10_stay_21 : decode cX10_stay 21 = .ok (.aload_n 0, 1) := by decide +kernel
theorem dX10_stay_22 : decode cX10_stay 22 = .ok (.invokevirtual 82, 3) := by decide +kernel
theorem dX10_stay_25 : decode cX10_stay 25 = .ok (.aload_n 0, 1) := by decide +kernel
theorem dX10_stay_26 : decode cX10_stay 26 = .ok (.getfield 10, 3) := by decide +kernel
theorem dX10_stay_29 : decode cX10_stay 29 = .ok (.iload_n 1, 1) := by decide +kernel
theorem dX10_stay_30 : decode cX10_stay 30 = .ok (.invokevirtual 109, 3) := by decide +kernel
theorem dX10_stay_33 : decode cX10_stay 33 = .ok (.iload_n 2, 1) := by decide +kernel
theorem dX10_stay_34 : decode cX10_stay 34 = .ok (.ireturn, 1) := by decide +kernel
theorem dX10_word_0 : decode cX10_word 0 = .ok (.iload_n 1, 1) := by decide +kernel
theorem dX10_word_1 : decode cX10_word 1 = .ok (.iload_n 2, 1) := by decide +kernel
theorem dX10_word_2 : decode cX10_word 2 = .ok (.iload_n 3, 1) := by decide +kernel
theorem dX10_word_3 : decode cX10_word 3 = .ok (.iload 4, 2) := by decide +kernel
theorem dX10_word_5 : decode cX10_word 5 = .ok (.invokestatic 112, 3) := by decide +kernel
theorem dX10_word_8 : decode cX10_word 8 = .ok (.ifCond .ne 6, 3) := by decide +kernel
theorem dX10_word_11 : decode cX10_word 11 = .ok (.bipush (-2), 2) := by decide +kernel
theorem dX10_word_13 : decode cX10_word 13 = .ok (.ireturn, 1) := by decide +kernel
theorem dX10_word_14 : decode cX10_word 14 = .ok (.aload_n 0, 1) := by decide +kernel
theorem dX10_word_15 : decode cX10_word 15 = .ok (.getfield 19, 3) := by decide +kernel
theorem dX10_word_18 : decode cX10_word 18 = .ok (.invokevirtual 116, 3) := by decide +kernel
theorem dX10_word_21 : decode cX10_word 21 = .ok (.bipush 8, 2) := by decide +kernel
theorem dX10_word_23 : decode cX10_word 23 = .ok (.if_icmp .lt 6, 3) := by decide +kernel
theorem dX10_word_26 : decode cX10_word 26 = .ok (.bipush (-4), 2) := by decide +kernel
theorem dX10_word_28 : decode cX10_word 28 = .ok (.ireturn, 1) := by decide +kernel
theorem dX10_word_29 : decode cX10_word 29 = .ok (.aload_n 0, 1) := by decide +kernel
theorem dX10_word_30 : decode cX10_word 30 = .ok (.getfield 19, 3) := by decide +kernel
theorem dX10_word_33 : decode cX10_word 33 = .ok (.invokevirtual 116, 3) := by decide +kernel
theorem dX10_word_36 : decode cX10_word 36 = .ok (.istore 5, 2) := by decide +kernel
theorem dX10_word_38 : decode cX10_word 38 = .ok (.aload_n 0, 1) := by decide +kernel
theorem dX10_word_39 : decode cX10_word 39 = .ok (.invokevirtual 82, 3) := by decide +kernel
theorem dX10_word_42 : decode cX10_word 42 = .ok (.aload_n 0, 1) := by decide +kernel
theorem dX10_word_43 : decode cX10_word 43 = .ok (.getfield 19, 3) := by decide +kernel
theorem dX10_word_46 : decode cX10_word 46 = .ok (.invokevirtual 119, 3) := by decide +kernel
theorem dX10_word_49 : decode cX10_word 49 = .ok (.aload_n 0, 1) := by decide +kernel
theorem dX10_word_50 : decode cX10_word 50 = .ok (.getfield 19, 3) := by decide +kernel
theorem dX10_word_53 : decode cX10_word 53 = .ok (.iload 5, 2) := by decide +kernel
theorem dX10_word_55 : decode cX10_word 55 = .ok (.iload_n 1, 1) := by decide +kernel
theorem dX10_word_56 : decode cX10_word 56 = .ok (.iload_n 2, 1) := by decide +kernel
theorem dX10_word_57 : decode cX10_word 57 = .ok (.iload_n 3, 1) := by decide +kernel
theorem dX10_word_58 : decode cX10_word 58 = .ok (.iload 4, 2) := by decide +kernel
theorem dX10_word_60 : decode cX10_word 60 = .ok (.invokevirtual 122, 3) := by decide +kernel
theorem dX10_word_63 : decode cX10_word 63 = .ok (.iload 5, 2) := by decide +kernel
theorem dX10_word_65 : decode cX10_word 65 = .ok (.ireturn, 1) := by decide +kernel
theorem dX10_way_0 : decode cX10_way 0 = .ok (.aload_n 0, 1) := by decide +kernel
theorem dX10_way_1 : decode cX10_way 1 = .ok (.iload_n 1, 1) := by decide +kernel
theorem dX10_way_2 : decode cX10_way 2 = .ok (.invokevirtual 126, 3) := by decide +kernel
theorem dX10_way_5 : decode cX10_way 5 = .ok (.ifCond .eq 15, 3) := by decide +kernel
theorem dX10_way_8 : decode cX10_way 8 = .ok (.iload_n 2, 1) := by decide +kernel
theorem dX10_way_9 : decode cX10_way 9 = .ok (.iload_n 3, 1) := by decide +kernel
theorem dX10_way_10 : decode cX10_way 10 = .ok (.iload 4, 2) := by decide +kernel
theorem dX10_way_12 : decode cX10_way 12 = .ok (.iload 5, 2) := by decide +kernel
theorem dX10_way_14 : decode cX10_way 14 = .ok (.invokestatic 112, 3) := by decide +kernel
theorem dX10_way_17 : decode cX10_way 17 = .ok (.ifCond .ne 6, 3) := by decide +kernel
theorem dX10_way_20 : decode cX10_way 20 = .ok (.bipush (-2), 2) := by decide +kernel
theorem dX10_way_22 : decode cX10_way 22 = .ok (.ireturn, 1) := by decide +kernel
theorem dX10_way_23 : decode cX10_way 23 = .ok (.aload_n 0, 1) := by decide +kernel
theorem dX10_way_24 : decode cX10_way 24 = .ok (.getfield 19, 3) := by decide +kernel
theorem dX10_way_27 : decode cX10_way 27 = .ok (.iload_n 1, 1) := by decide +kernel
theorem dX10_way_28 : decode cX10_way 28 = .ok (.invokevirtual 129, 3) := by decide +kernel
theorem dX10_way_31 : decode cX10_way 31 = .ok (.iconst 2, 1) := by decide +kernel
theorem dX10_way_32 : decode cX10_way 32 = .ok (.if_icmp .lt 6, 3) := by decide +kernel
theorem dX10_way_35 : decode cX10_way 35 = .ok (.bipush (-4), 2) := by decide +kernel
theorem dX10_way_37 : decode cX10_way 37 = .ok (.ireturn, 1) := by decide +kernel
theorem dX10_way_38 : decode cX10_way 38 = .ok (.aload_n 0, 1) := by decide +kernel
theorem dX10_way_39 : decode cX10_way 39 = .ok (.invokevirtual 82, 3) := by decide +kernel
theorem dX10_way_42 : decode cX10_way 42 = .ok (.aload_n 0, 1) := by decide +kernel
theorem dX10_way_43 : decode cX10_way 43 = .ok (.getfield 19, 3) := by decide +kernel
theorem dX10_way_46 : decode cX10_way 46 = .ok (.iload_n 1, 1) := by decide +kernel
theorem dX10_way_47 : decode cX10_way 47 = .ok (.iload_n 2, 1) := by decide +kernel
theorem dX10_way_48 : decode cX10_way 48 = .ok (.iload_n 3, 1) := by decide +kernel
theorem dX10_way_49 : decode cX10_way 49 = .ok (.iload 4, 2) := by decide +kernel
theorem dX10_way_51 : decode cX10_way 51 = .ok (.iload 5, 2) := by decide +kernel
theorem dX10_way_53 : decode cX10_way 53 = .ok (.invokevirtual 122, 3) := by decide +kernel
theorem dX10_way_56 : decode cX10_way 56 = .ok (.iconst 1, 1) := by decide +kernel
theorem dX10_way_57 : decode cX10_way 57 = .ok (.ireturn, 1) := by decide +kernel
theorem dX10_grammar_0 : decode cX10_grammar 0 = .ok (.aload_n 0, 1) := by decide +kernel
theorem dX10_grammar_1 : decode cX10_grammar 1 = .ok (.iload_n 1, 1) := by decide +kernel
theorem dX10_grammar_2 : decode cX10_grammar 2 = .ok (.invokevirtual 133, 3) := by decide +kernel
theorem dX10_grammar_5 : decode cX10_grammar 5 = .ok (.ifCond .eq 21, 3) := by decide +kernel
theorem dX10_grammar_8 : decode cX10_grammar 8 = .ok (.aload_n 0, 1) := by decide +kernel
theorem dX10_grammar_9 : decode cX10_grammar 9 = .ok (.iload_n 2, 1) := by decide +kernel
theorem dX10_grammar_10 : decode cX10_grammar 10 = .ok (.invokevirtual 133, 3) := by decide +kernel
theorem dX10_grammar_13 : decode cX10_grammar 13 = .ok (.ifCond .eq 13, 3) := by decide +kernel
theorem dX10_grammar_16 : decode cX10_grammar 16 = .ok (.iload_n 1, 1) := by decide +kernel
theorem dX10_grammar_17 : decode cX10_grammar 17 = .ok (.iconst (-1), 1) := by decide +kernel
theorem dX10_grammar_18 : decode cX10_grammar 18 = .ok (.if_icmp .ne 11, 3) := by decide +kernel
theorem dX10_grammar_21 : decode cX10_grammar 21 = .ok (.iload_n 2, 1) := by decide +kernel
theorem dX10_grammar_22 : decode cX10_grammar 22 = .ok (.iconst (-1), 1) := by decide +kernel
theorem dX10_grammar_23 : decode cX10_grammar 23 = .ok (.if_icmp .ne 6, 3) := by decide +kernel
theorem dX10_grammar_26 : decode cX10_grammar 26 = .ok (.bipush (-2), 2) := by decide +kernel
theorem dX10_grammar_28 : decode cX10_grammar 28 = .ok (.ireturn, 1) := by decide +kernel
theorem dX10_grammar_29 : decode cX10_grammar 29 = .ok (.iload_n 3, 1) := by decide +kernel
theorem dX10_grammar_30 : decode cX10_grammar 30 = .ok (.iconst (-1), 1) := by decide +kernel
theorem dX10_grammar_31 : decode cX10_grammar 31 = .ok (.if_icmp .eq 16, 3) := by decide +kernel
theorem dX10_grammar_34 : decode cX10_grammar 34 = .ok (.iload_n 3, 1) := by decide +kernel
theorem dX10_grammar_35 : decode cX10_grammar 35 = .ok (.iconst 0, 1) := by decide +kernel
theorem dX10_grammar_36 : decode cX10_grammar 36 = .ok (.bipush 100, 2) := by decide +kernel
theorem dX10_grammar_38 : decode cX10_grammar 38 = .ok (.invokestatic 94, 3) := by decide +kernel
theorem dX10_grammar_41 : decode cX10_grammar 41 = .ok (.ifCond .ne 6, 3) := by decide +kernel
theorem dX10_grammar_44 : decode cX10_grammar 44 = .ok (.bipush (-2), 2) := by decide +kernel
theorem dX10_grammar_46 : decode cX10_grammar 46 = .ok (.ireturn, 1) := by decide +kernel
theorem dX10_grammar_47 : decode cX10_grammar 47 = .ok (.aload_n 0, 1) := by decide +kernel
theorem dX10_grammar_48 : decode cX10_grammar 48 = .ok (.getfield 19, 3) := by decide +kernel
theorem dX10_grammar_51 : decode cX10_grammar 51 = .ok (.iload_n 1, 1) := by decide +kernel
theorem dX10_grammar_52 : decode cX10_grammar 52 = .ok (.iload_n 2, 1) := by decide +kernel
theorem dX10_grammar_53 : decode cX10_grammar 53 = .ok (.invokevirtual 136, 3) := by decide +kernel
theorem dX10_grammar_56 : decode cX10_grammar 56 = .ok (.istore 4, 2) := by decide +kernel
theorem dX10_grammar_58 : decode cX10_grammar 58 = .ok (.aload_n 0, 1) := by decide +kernel
theorem dX10_grammar_59 : decode cX10_grammar 59 = .ok (.invokevirtual 82, 3) := by decide +kernel
theorem dX10_grammar_62 : decode cX10_grammar 62 = .ok (.aload_n 0, 1) := by decide +kernel
theorem dX10_grammar_63 : decode cX10_grammar 63 = .ok (.getfield 19, 3) := by decide +kernel
theorem dX10_grammar_66 : decode cX10_grammar 66 = .ok (.iload_n 1, 1) := by decide +kernel
theorem dX10_grammar_67 : decode cX10_grammar 67 = .ok (.iload_n 2, 1) := by decide +kernel
theorem dX10_grammar_68 : decode cX10_grammar 68 = .ok (.iload_n 3, 1) := by decide +kernel
theorem dX10_grammar_69 : decode cX10_grammar 69 = .ok (.invokevirtual 139, 3) := by decide +kernel
theorem dX10_grammar_72 : decode cX10_grammar 72 = .ok (.iload 4, 2) := by decide +kernel
theorem dX10_grammar_74 : decode cX10_grammar 74 = .ok (.ireturn, 1) := by decide +kernel
theorem dX10_least_0 : decode cX10_least 0 = .ok (.aload_n 0, 1) := by decide +kernel
theorem dX10_least_1 : decode cX10_least 1 = .ok (.getfield 26, 3) := by decide +kernel
theorem dX10_least_4 : decode cX10_least 4 = .ok (.aload_n 0, 1) := by decide +kernel
theorem dX10_least_5 : decode cX10_least 5 = .ok (.getfield 10, 3) := by decide +kernel
theorem dX10_least_8 : decode cX10_least 8 = .ok (.aload_n 0, 1) := by decide +kernel
theorem dX10_least_9 : decode cX10_least 9 = .ok (.getfield 19, 3) := by decide +kernel
theorem dX10_least_12 : decode cX10_least 12 = .ok (.invokevirtual 142, 3) := by decide +kernel
theorem dX10_least_15 : decode cX10_least 15 = .ok (.ifCond .eq 13, 3) := by decide +kernel
theorem dX10_least_18 : decode cX10_least 18 = .ok (.aload_n 0, 1) := by decide +kernel
theorem dX10_least_19 : decode cX10_least 19 = .ok (.getfield 26, 3) := by decide +kernel
theorem dX10_least_22 : decode cX10_least 22 = .ok (.invokevirtual 146, 3) := by decide +kernel
theorem dX10_least_25 : decode cX10_least 25 = .ok (.goto 5, 3) := by decide +kernel
theorem dX10_least_28 : decode cX10_least 28 = .ok (.bipush (-3), 2) := by decide +kernel
theorem dX10_least_30 : decode cX10_least 30 = .ok (.ireturn, 1) := by decide +kernel
theorem dX10_rowSize_0 : decode cX10_rowSize 0 = .ok (.aload_n 0, 1) := by decide +kernel
theorem dX10_rowSize_1 : decode cX10_rowSize 1 = .ok (.getfield 26, 3) := by decide +kernel
theorem dX10_rowSize_4 : decode cX10_rowSize 4 = .ok (.aload_n 0, 1) := by decide +kernel
theorem dX10_rowSize_5 : decode cX10_rowSize 5 = .ok (.getfield 10, 3) := by decide +kernel
theorem dX10_rowSize_8 : decode cX10_rowSize 8 = .ok (.aload_n 0, 1) := by decide +kernel
theorem dX10_rowSize_9 : decode cX10_rowSize 9 = .ok (.getfield 19, 3) := by decide +kernel
theorem dX10_rowSize_12 : decode cX10_rowSize 12 = .ok (.invokevirtual 142, 3) := by decide +kernel
theorem dX10_rowSize_15 : decode cX10_rowSize 15 = .ok (.ifCond .eq 16, 3) := by decide +kernel
theorem dX10_rowSize_18 : decode cX10_rowSize 18 = .ok (.aload_n 0, 1) := by decide +kernel
theorem dX10_rowSize_19 : decode cX10_rowSize 19 = .ok (.getfield 26, 3) := by decide +kernel
theorem dX10_rowSize_22 : decode cX10_rowSize 22 = .ok (.invokevirtual 149, 3) := by decide +kernel
theorem dX10_rowSize_25 : decode cX10_rowSize 25 = .ok (.invokevirtual 153, 3) := by decide +kernel
theorem dX10_rowSize_28 : decode cX10_rowSize 28 = .ok (.goto 5, 3) := by decide +kernel
theorem dX10_rowSize_31 : decode cX10_rowSize 31 = .ok (.bipush (-3), 2) := by decide +kernel
theorem dX10_rowSize_33 : decode cX10_rowSize 33 = .ok (.ireturn, 1) := by decide +kernel
theorem dX10_rowAt_0 : decode cX10_rowAt 0 = .ok (.aload_n 0, 1) := by decide +kernel
theorem dX10_rowAt_1 : decode cX10_rowAt 1 = .ok (.getfield 26, 3) := by decide +kernel
theorem dX10_rowAt_4 : decode cX10_rowAt 4 = .ok (.aload_n 0, 1) := by decide +kernel
theorem dX10_rowAt_5 : decode cX10_rowAt 5 = .ok (.getfield 10, 3) := by decide +kernel
theorem dX10_rowAt_8 : decode cX10_rowAt 8 = .ok (.aload_n 0, 1) := by decide +kernel
theorem dX10_rowAt_9 : decode cX10_rowAt 9 = .ok (.getfield 19, 3) := by decide +kernel
theorem dX10_rowAt_12 : decode cX10_rowAt 12 = .ok (.invokevirtual 142, 3) := by decide +kernel
theorem dX10_rowAt_15 : decode cX10_rowAt 15 = .ok (.ifCond .ne 6, 3) := by decide +kernel
theorem dX10_rowAt_18 : decode cX10_rowAt 18 = .ok (.bipush (-3), 2) := by decide +kernel
theorem dX10_rowAt_20 : decode cX10_rowAt 20 = .ok (.ireturn, 1) := by decide +kernel
theorem dX10_rowAt_21 : decode cX10_rowAt 21 = .ok (.iload_n 1, 1) := by decide +kernel
theorem dX10_rowAt_22 : decode cX10_rowAt 22 = .ok (.iconst 0, 1) := by decide +kernel
theorem dX10_rowAt_23 : decode cX10_rowAt 23 = .ok (.aload_n 0, 1) := by decide +kernel
theorem dX10_rowAt_24 : decode cX10_rowAt 24 = .ok (.getfield 26, 3) := by decide +kernel
theorem dX10_rowAt_27 : decode cX10_rowAt 27 = .ok (.invokevirtual 149, 3) := by decide +kernel
theorem dX10_rowAt_30 : decode cX10_rowAt 30 = .ok (.invokevirtual 153, 3) := by decide +kernel
theorem dX10_rowAt_33 : decode cX10_rowAt 33 = .ok (.iconst 1, 1) := by decide +kernel
theorem dX10_rowAt_34 : decode cX10_rowAt 34 = .ok (.isub, 1) := by decide +kernel
theorem dX10_rowAt_35 : decode cX10_rowAt 35 = .ok (.invokestatic 94, 3) := by decide +kernel
theorem dX10_rowAt_38 : decode cX10_rowAt 38 = .ok (.ifCond .eq 17, 3) := by decide +kernel
theorem dX10_rowAt_41 : decode cX10_rowAt 41 = .ok (.aload_n 0, 1) := by decide +kernel
theorem dX10_rowAt_42 : decode cX10_rowAt 42 = .ok (.getfield 26, 3) := by decide +kernel
theorem dX10_rowAt_45 : decode cX10_rowAt 45 = .ok (.invokevirtual 149, 3) := by decide +kernel
theorem dX10_rowAt_48 : decode cX10_rowAt 48 = .ok (.iload_n 1, 1) := by decide +kernel
theorem dX10_rowAt_49 : decode cX10_rowAt 49 = .ok (.invokevirtual 156, 3) := by decide +kernel
theorem dX10_rowAt_52 : decode cX10_rowAt 52 = .ok (.goto 5, 3) := by decide +kernel
theorem dX10_rowAt_55 : decode cX10_rowAt 55 = .ok (.bipush (-2), 2) := by decide +kernel
theorem dX10_rowAt_57 : decode cX10_rowAt 57 = .ok (.ireturn, 1) := by decide +kernel
theorem dX10_beside_0 : decode cX10_beside 0 = .ok (.aload_n 0, 1) := by decide +kernel
theorem dX10_beside_1 : decode cX10_beside 1 = .ok (.getfield 26, 3) := by decide +kernel
theorem dX10_beside_4 : decode cX10_beside 4 = .ok (.aload_n 0, 1) := by decide +kernel
theorem dX10_beside_5 : decode cX10_beside 5 = .ok (.getfield 10, 3) := by decide +kernel
theorem dX10_beside_8 : decode cX10_beside 8 = .ok (.aload_n 0, 1) := by decide +kernel
theorem dX10_beside_9 : decode cX10_beside 9 = .ok (.getfield 19, 3) := by decide +kernel
theorem dX10_beside_12 : decode cX10_beside 12 = .ok (.invokevirtual 142, 3) := by decide +kernel
theorem dX10_beside_15 : decode cX10_beside 15 = .ok (.ifCond .ne 6, 3) := by decide +kernel
theorem dX10_beside_18 : decode cX10_beside 18 = .ok (.bipush (-3), 2) := by decide +kernel
theorem dX10_beside_20 : decode cX10_beside 20 = .ok (.ireturn, 1) := by decide +kernel
theorem dX10_beside_21 : decode cX10_beside 21 = .ok (.aload_n 0, 1) := by decide +kernel
theorem dX10_beside_22 : decode cX10_beside 22 = .ok (.getfield 26, 3) := by decide +kernel
theorem dX10_beside_25 : decode cX10_beside 25 = .ok (.aload_n 0, 1) := by decide +kernel
theorem dX10_beside_26 : decode cX10_beside 26 = .ok (.getfield 19, 3) := by decide +kernel
theorem dX10_beside_29 : decode cX10_beside 29 = .ok (.invokevirtual 159, 3) := by decide +kernel
theorem dX10_beside_32 : decode cX10_beside 32 = .ok (.istore_n 1, 1) := by decide +kernel
theorem dX10_beside_33 : decode cX10_beside 33 = .ok (.iload_n 1, 1) := by decide +kernel
theorem dX10_beside_34 : decode cX10_beside 34 = .ok (.ldc 163, 2) := by decide +kernel
theorem dX10_beside_36 : decode cX10_beside 36 = .ok (.if_icmp .ge 7, 3) := by decide +kernel
theorem dX10_beside_39 : decode cX10_beside 39 = .ok (.iload_n 1, 1) := by decide +kernel
theorem dX10_beside_40 : decode cX10_beside 40 = .ok (.goto 4, 3) := by decide +kernel
theorem dX10_beside_43 : decode cX10_beside 43 = .ok (.iconst (-1), 1) := by decide +kernel
theorem dX10_beside_44 : decode cX10_beside 44 = .ok (.ireturn, 1) := by decide +kernel
theorem dX10_say_0 : decode cX10_say 0 = .ok (.aload_n 0, 1) := by decide +kernel
theorem dX10_say_1 : decode cX10_say 1 = .ok (.iload_n 1, 1) := by decide +kernel
theorem dX10_say_2 : decode cX10_say 2 = .ok (.invokevirtual 126, 3) := by decide +kernel
theorem dX10_say_5 : decode cX10_say 5 = .ok (.ifCond .ne 6, 3) := by decide +kernel
theorem dX10_say_8 : decode cX10_say 8 = .ok (.bipush (-2), 2) := by decide +kernel
theorem dX10_say_10 : decode cX10_say 10 = .ok (.ireturn, 1) := by decide +kernel
theorem dX10_say_11 : decode cX10_say 11 = .ok (.aload_n 0, 1) := by decide +kernel
theorem dX10_say_12 : decode cX10_say 12 = .ok (.getfield 35, 3) := by decide +kernel
theorem dX10_say_15 : decode cX10_say 15 = .ok (.invokevirtual 153, 3) := by decide +kernel
theorem dX10_say_18 : decode cX10_say 18 = .ok (.bipush 12, 2) := by decide +kernel
theorem dX10_say_20 : decode cX10_say 20 = .ok (.if_icmp .lt 6, 3) := by decide +kernel
theorem dX10_say_23 : decode cX10_say 23 = .ok (.bipush (-4), 2) := by decide +kernel
theorem dX10_say_25 : decode cX10_say 25 = .ok (.ireturn, 1) := by decide +kernel
theorem dX10_say_26 : decode cX10_say 26 = .ok (.aload_n 0, 1) := by decide +kernel
theorem dX10_say_27 : decode cX10_say 27 = .ok (.getfield 42, 3) := by decide +kernel
theorem dX10_say_30 : decode cX10_say 30 = .ok (.invokevirtual 164, 3) := by decide +kernel
theorem dX10_say_33 : decode cX10_say 33 = .ok (.aload_n 0, 1) := by decide +kernel
theorem dX10_say_34 : decode cX10_say 34 = .ok (.getfield 35, 3) := by decide +kernel
theorem dX10_say_37 : decode cX10_say 37 = .ok (.iload_n 1, 1) := by decide +kernel
theorem dX10_say_38 : decode cX10_say 38 = .ok (.invokevirtual 167, 3) := by decide +kernel
theorem dX10_say_41 : decode cX10_say 41 = .ok (.aload_n 0, 1) := by decide +kernel
theorem dX10_say_42 : decode cX10_say 42 = .ok (.getfield 35, 3) := by decide +kernel
theorem dX10_say_45 : decode cX10_say 45 = .ok (.invokevirtual 153, 3) := by decide +kernel
theorem dX10_say_48 : decode cX10_say 48 = .ok (.ireturn, 1) := by decide +kernel
theorem dX10_unsay_0 : decode cX10_unsay 0 = .ok (.aload_n 0, 1) := by decide +kernel
theorem dX10_unsay_1 : decode cX10_unsay 1 = .ok (.getfield 35, 3) := by decide +kernel
theorem dX10_unsay_4 : decode cX10_unsay 4 = .ok (.invokevirtual 153, 3) := by decide +kernel
theorem dX10_unsay_7 : decode cX10_unsay 7 = .ok (.istore_n 1, 1) := by decide +kernel
theorem dX10_unsay_8 : decode cX10_unsay 8 = .ok (.aload_n 0, 1) := by decide +kernel
theorem dX10_unsay_9 : decode cX10_unsay 9 = .ok (.getfield 42, 3) := by decide +kernel
theorem dX10_unsay_12 : decode cX10_unsay 12 = .ok (.invokevirtual 164, 3) := by decide +kernel
theorem dX10_unsay_15 : decode cX10_unsay 15 = .ok (.aload_n 0, 1) := by decide +kernel
theorem dX10_unsay_16 : decode cX10_unsay 16 = .ok (.getfield 35, 3) := by decide +kernel
theorem dX10_unsay_19 : decode cX10_unsay 19 = .ok (.invokevirtual 168, 3) := by decide +kernel
theorem dX10_unsay_22 : decode cX10_unsay 22 = .ok (.iload_n 1, 1) := by decide +kernel
theorem dX10_unsay_23 : decode cX10_unsay 23 = .ok (.ireturn, 1) := by decide +kernel
theorem dX10_lay_0 : decode cX10_lay 0 = .ok (.aload_n 0, 1) := by decide +kernel
theorem dX10_lay_1 : decode cX10_lay 1 = .ok (.getfield 42, 3) := by decide +kernel
theorem dX10_lay_4 : decode cX10_lay 4 = .ok (.aload_n 0, 1) := by decide +kernel
theorem dX10_lay_5 : decode cX10_lay 5 = .ok (.getfield 10, 3) := by decide +kernel
theorem dX10_lay_8 : decode cX10_lay 8 = .ok (.aload_n 0, 1) := by decide +kernel
theorem dX10_lay_9 : decode cX10_lay 9 = .ok (.getfield 19, 3) := by decide +kernel
theorem dX10_lay_12 : decode cX10_lay 12 = .ok (.aload_n 0, 1) := by decide +kernel
theorem dX10_lay_13 : decode cX10_lay 13 = .ok (.getfield 35, 3) := by decide +kernel
theorem dX10_lay_16 : decode cX10_lay 16 = .ok (.invokevirtual 169, 3) := by decide +kernel
theorem dX10_lay_19 : decode cX10_lay 19 = .ok (.istore_n 1, 1) := by decide +kernel
theorem dX10_lay_20 : decode cX10_lay 20 = .ok (.iload_n 1, 1) := by decide +kernel
theorem dX10_lay_21 : decode cX10_lay 21 = .ok (.ldc 163, 2) := by decide +kernel
theorem dX10_lay_23 : decode cX10_lay 23 = .ok (.if_icmp .ge 7, 3) := by decide +kernel
theorem dX10_lay_26 : decode cX10_lay 26 = .ok (.iload_n 1, 1) := by decide +kernel
theorem dX10_lay_27 : decode cX10_lay 27 = .ok (.goto 5, 3) := by decide +kernel
theorem dX10_lay_30 : decode cX10_lay 30 = .ok (.bipush (-3), 2) := by decide +kernel
theorem dX10_lay_32 : decode cX10_lay 32 = .ok (.ireturn, 1) := by decide +kernel
theorem dX10_laid_0 : decode cX10_laid 0 = .ok (.iload_n 1, 1) := by decide +kernel
theorem dX10_laid_1 : decode cX10_laid 1 = .ok (.iconst 0, 1) := by decide +kernel
theorem dX10_laid_2 : decode cX10_laid 2 = .ok (.aload_n 0, 1) := by decide +kernel
theorem dX10_laid_3 : decode cX10_laid 3 = .ok (.getfield 10, 3) := by decide +kernel
theorem dX10_laid_6 : decode cX10_laid 6 = .ok (.invokevirtual 78, 3) := by decide +kernel
theorem dX10_laid_9 : decode cX10_laid 9 = .ok (.iconst 1, 1) := by decide +kernel
theorem dX10_laid_10 : decode cX10_laid 10 = .ok (.isub, 1) := by decide +kernel
theorem dX10_laid_11 : decode cX10_laid 11 = .ok (.invokestatic 94, 3) := by decide +kernel
theorem dX10_laid_14 : decode cX10_laid 14 = .ok (.ifCond .eq 12, 3) := by decide +kernel
theorem dX10_laid_17 : decode cX10_laid 17 = .ok (.iload_n 2, 1) := by decide +kernel
theorem dX10_laid_18 : decode cX10_laid 18 = .ok (.iconst 0, 1) := by decide +kernel
theorem dX10_laid_19 : decode cX10_laid 19 = .ok (.iconst 2, 1) := by decide +kernel
theorem dX10_laid_20 : decode cX10_laid 20 = .ok (.invokestatic 94, 3) := by decide +kernel
theorem dX10_laid_23 : decode cX10_laid 23 = .ok (.ifCond .ne 6, 3) := by decide +kernel
theorem dX10_laid_26 : decode cX10_laid 26 = .ok (.bipush (-2), 2) := by decide +kernel
theorem dX10_laid_28 : decode cX10_laid 28 = .ok (.ireturn, 1) := by decide +kernel
theorem dX10_laid_29 : decode cX10_laid 29 = .ok (.aload_n 0, 1) := by decide +kernel
theorem dX10_laid_30 : decode cX10_laid 30 = .ok (.getfield 42, 3) := by decide +kernel
theorem dX10_laid_33 : decode cX10_laid 33 = .ok (.invokevirtual 172, 3) := by decide +kernel
theorem dX10_laid_36 : decode cX10_laid 36 = .ok (.ifCond .ne 6, 3) := by decide +kernel
theorem dX10_laid_39 : decode cX10_laid 39 = .ok (.bipush (-3), 2) := by decide +kernel
theorem dX10_laid_41 : decode cX10_laid 41 = .ok (.ireturn, 1) := by decide +kernel
theorem dX10_laid_42 : decode cX10_laid 42 = .ok (.iload_n 2, 1) := by decide +kernel
theorem dX10_laid_43 : decode cX10_laid 43 = .ok (.ifCond .ne 12, 3) := by decide +kernel
theorem dX10_laid_46 : decode cX10_laid 46 = .ok (.aload_n 0, 1) := by decide +kernel
theorem dX10_laid_47 : decode cX10_laid 47 = .ok (.getfield 42, 3) := by decide +kernel
theorem dX10_laid_50 : decode cX10_laid 50 = .ok (.iload_n 1, 1) := by decide +kernel
theorem dX10_laid_51 : decode cX10_laid 51 = .ok (.invokevirtual 176, 3) := by decide +kernel
theorem dX10_laid_54 : decode cX10_laid 54 = .ok (.ireturn, 1) := by decide +kernel
theorem dX10_laid_55 : decode cX10_laid 55 = .ok (.iload_n 2, 1) := by decide +kernel
theorem dX10_laid_56 : decode cX10_laid 56 = .ok (.iconst 1, 1) := by decide +kernel
theorem dX10_laid_57 : decode cX10_laid 57 = .ok (.if_icmp .ne 14, 3) := by decide +kernel
theorem dX10_laid_60 : decode cX10_laid 60 = .ok (.aload_n 0, 1) := by decide +kernel
theorem dX10_laid_61 : decode cX10_laid 61 = .ok (.getfield 42, 3) := by decide +kernel
theorem dX10_laid_64 : decode cX10_laid 64 = .ok (.iload_n 1, 1) := by decide +kernel
theorem dX10_laid_65 : decode cX10_laid 65 = .ok (.invokevirtual 179, 3) := by decide +kernel
theorem dX10_laid_68 : decode cX10_laid 68 = .ok (.goto 11, 3) := by decide +kernel
theorem dX10_laid_71 : decode cX10_laid 71 = .ok (.aload_n 0, 1) := by decide +kernel
theorem dX10_laid_72 : decode cX10_laid 72 = .ok (.getfield 42, 3) := by decide +kernel
theorem dX10_laid_75 : decode cX10_laid 75 = .ok (.iload_n 1, 1) := by decide +kernel
theorem dX10_laid_76 : decode cX10_laid 76 = .ok (.invokevirtual 182, 3) := by decide +kernel
theorem dX10_laid_79 : decode cX10_laid 79 = .ok (.ireturn, 1) := by decide +kernel
theorem dX10_edits_0 : decode cX10_edits 0 = .ok (.aload_n 0, 1) := by decide +kernel
theorem dX10_edits_1 : decode cX10_edits 1 = .ok (.getfield 26, 3) := by decide +kernel
theorem dX10_edits_4 : decode cX10_edits 4 = .ok (.aload_n 0, 1) := by decide +kernel
theorem dX10_edits_5 : decode cX10_edits 5 = .ok (.getfield 10, 3) := by decide +kernel
theorem dX10_edits_8 : decode cX10_edits 8 = .ok (.aload_n 0, 1) := by decide +kernel
theorem dX10_edits_9 : decode cX10_edits 9 = .ok (.getfield 19, 3) := by decide +kernel
theorem dX10_edits_12 : decode cX10_edits 12 = .ok (.invokevirtual 142, 3) := by decide +kernel
theorem dX10_edits_15 : decode cX10_edits 15 = .ok (.ifCond .eq 24, 3) := by decide +kernel
theorem dX10_edits_18 : decode cX10_edits 18 = .ok (.aload_n 0, 1) := by decide +kernel
theorem dX10_edits_19 : decode cX10_edits 19 = .ok (.getfield 49, 3) := by decide +kernel
theorem dX10_edits_22 : decode cX10_edits 22 = .ok (.aload_n 0, 1) := by decide +kernel
theorem dX10_edits_23 : decode cX10_edits 23 = .ok (.getfield 35, 3) := by decide +kernel
theorem dX10_edits_26 : decode cX10_edits 26 = .ok (.aload_n 0, 1) := by decide +kernel
theorem dX10_edits_27 : decode cX10_edits 27 = .ok (.getfield 26, 3) := by decide +kernel
theorem dX10_edits_30 : decode cX10_edits 30 = .ok (.invokevirtual 149, 3) := by decide +kernel
theorem dX10_edits_33 : decode cX10_edits 33 = .ok (.invokevirtual 185, 3) := by decide +kernel
theorem dX10_edits_36 : decode cX10_edits 36 = .ok (.goto 5, 3) := by decide +kernel
theorem dX10_edits_39 : decode cX10_edits 39 = .ok (.bipush (-3), 2) := by decide +kernel
theorem dX10_edits_41 : decode cX10_edits 41 = .ok (.ireturn, 1) := by decide +kernel
theorem dX10_teach_0 : decode cX10_teach 0 = .ok (.aload_n 0, 1) := by decide +kernel
theorem dX10_teach_1 : decode cX10_teach 1 = .ok (.getfield 42, 3) := by decide +kernel
theorem dX10_teach_4 : decode cX10_teach 4 = .ok (.invokevirtual 172, 3) := by decide +kernel
theorem dX10_teach_7 : decode cX10_teach 7 = .ok (.ifCond .eq 21, 3) := by decide +kernel
theorem dX10_teach_10 : decode cX10_teach 10 = .ok (.aload_n 0, 1) := by decide +kernel
theorem dX10_teach_11 : decode cX10_teach 11 = .ok (.getfield 56, 3) := by decide +kernel
theorem dX10_teach_14 : decode cX10_teach 14 = .ok (.aload_n 0, 1) := by decide +kernel
theorem dX10_teach_15 : decode cX10_teach 15 = .ok (.getfield 10, 3) := by decide +kernel
theorem dX10_teach_18 : decode cX10_teach 18 = .ok (.aload_n 0, 1) := by decide +kernel
theorem dX10_teach_19 : decode cX10_teach 19 = .ok (.getfield 42, 3) := by decide +kernel
theorem dX10_teach_22 : decode cX10_teach 22 = .ok (.invokevirtual 189, 3) := by decide +kernel
theorem dX10_teach_25 : decode cX10_teach 25 = .ok (.goto 5, 3) := by decide +kernel
theorem dX10_teach_28 : decode cX10_teach 28 = .ok (.bipush (-3), 2) := by decide +kernel
theorem dX10_teach_30 : decode cX10_teach 30 = .ok (.ireturn, 1) := by decide +kernel
theorem dX10_unteach_0 : decode cX10_unteach 0 = .ok (.aload_n 0, 1) := by decide +kernel
theorem dX10_unteach_1 : decode cX10_unteach 1 = .ok (.getfield 56, 3) := by decide +kernel
theorem dX10_unteach_4 : decode cX10_unteach 4 = .ok (.invokevirtual 193, 3) := by decide +kernel
theorem dX10_unteach_7 : decode cX10_unteach 7 = .ok (.ifCond .le 13, 3) := by decide +kernel
theorem dX10_unteach_10 : decode cX10_unteach 10 = .ok (.aload_n 0, 1) := by decide +kernel
theorem dX10_unteach_11 : decode cX10_unteach 11 = .ok (.getfield 56, 3) := by decide +kernel
theorem dX10_unteach_14 : decode cX10_unteach 14 = .ok (.invokevirtual 196, 3) := by decide +kernel
theorem dX10_unteach_17 : decode cX10_unteach 17 = .ok (.goto 5, 3) := by decide +kernel
theorem dX10_unteach_20 : decode cX10_unteach 20 = .ok (.bipush (-3), 2) := by decide +kernel
theorem dX10_unteach_22 : decode cX10_unteach 22 = .ok (.ireturn, 1) := by decide +kernel
theorem dX10_taught_0 : decode cX10_taught 0 = .ok (.iload_n 1, 1) := by decide +kernel
theorem dX10_taught_1 : decode cX10_taught 1 = .ok (.invokestatic 91, 3) := by decide +kernel
theorem dX10_taught_4 : decode cX10_taught 4 = .ok (.ifCond .eq 22, 3) := by decide +kernel
theorem dX10_taught_7 : decode cX10_taught 7 = .ok (.iload_n 2, 1) := by decide +kernel
theorem dX10_taught_8 : decode cX10_taught 8 = .ok (.invokestatic 74, 3) := by decide +kernel
theorem dX10_taught_11 : decode cX10_taught 11 = .ok (.ifCond .eq 15, 3) := by decide +kernel
theorem dX10_taught_14 : decode cX10_taught 14 = .ok (.aload_n 0, 1) := by decide +kernel
theorem dX10_taught_15 : decode cX10_taught 15 = .ok (.getfield 56, 3) := by decide +kernel
theorem dX10_taught_18 : decode cX10_taught 18 = .ok (.iload_n 1, 1) := by decide +kernel
theorem dX10_taught_19 : decode cX10_taught 19 = .ok (.iload_n 2, 1) := by decide +kernel
theorem dX10_taught_20 : decode cX10_taught 20 = .ok (.invokevirtual 199, 3) := by decide +kernel
theorem dX10_taught_23 : decode cX10_taught 23 = .ok (.goto 5, 3) := by decide +kernel
theorem dX10_taught_26 : decode cX10_taught 26 = .ok (.bipush (-2), 2) := by decide +kernel
theorem dX10_taught_28 : decode cX10_taught 28 = .ok (.ireturn, 1) := by decide +kernel
theorem dX10_renew_0 : decode cX10_renew 0 = .ok (.aload_n 0, 1) := by decide +kernel
theorem dX10_renew_1 : decode cX10_renew 1 = .ok (.invokevirtual 82, 3) := by decide +kernel
theorem dX10_renew_4 : decode cX10_renew 4 = .ok (.aload_n 0, 1) := by decide +kernel
theorem dX10_renew_5 : decode cX10_renew 5 = .ok (.getfield 56, 3) := by decide +kernel
theorem dX10_renew_8 : decode cX10_renew 8 = .ok (.aload_n 0, 1) := by decide +kernel
theorem dX10_renew_9 : decode cX10_renew 9 = .ok (.getfield 10, 3) := by decide +kernel
theorem dX10_renew_12 : decode cX10_renew 12 = .ok (.invokevirtual 202, 3) := by decide +kernel
theorem dX10_renew_15 : decode cX10_renew 15 = .ok (.ireturn, 1) := by decide +kernel
theorem dX10_spot_0 : decode cX10_spot 0 = .ok (.aload_n 0, 1) := by decide +kernel
theorem dX10_spot_1 : decode cX10_spot 1 = .ok (.iload_n 1, 1) := by decide +kernel
theorem dX10_spot_2 : decode cX10_spot 2 = .ok (.invokevirtual 126, 3) := by decide +kernel
theorem dX10_spot_5 : decode cX10_spot 5 = .ok (.ifCond .eq 12, 3) := by decide +kernel
theorem dX10_spot_8 : decode cX10_spot 8 = .ok (.iload_n 2, 1) := by decide +kernel
theorem dX10_spot_9 : decode cX10_spot 9 = .ok (.iconst 0, 1) := by decide +kernel
theorem dX10_spot_10 : decode cX10_spot 10 = .ok (.iconst 2, 1) := by decide +kernel
theorem dX10_spot_11 : decode cX10_spot 11 = .ok (.invokestatic 94, 3) := by decide +kernel
theorem dX10_spot_14 : decode cX10_spot 14 = .ok (.ifCond .ne 6, 3) := by decide +kernel
theorem dX10_spot_17 : decode cX10_spot 17 = .ok (.bipush (-2), 2) := by decide +kernel
theorem dX10_spot_19 : decode cX10_spot 19 = .ok (.ireturn, 1) := by decide +kernel
theorem dX10_spot_20 : decode cX10_spot 20 = .ok (.aload_n 0, 1) := by decide +kernel
theorem dX10_spot_21 : decode cX10_spot 21 = .ok (.getfield 63, 3) := by decide +kernel
theorem dX10_spot_24 : decode cX10_spot 24 = .ok (.aload_n 0, 1) := by decide +kernel
theorem dX10_spot_25 : decode cX10_spot 25 = .ok (.getfield 10, 3) := by decide +kernel
theorem dX10_spot_28 : decode cX10_spot 28 = .ok (.aload_n 0, 1) := by decide +kernel
theorem dX10_spot_29 : decode cX10_spot 29 = .ok (.getfield 19, 3) := by decide +kernel
theorem dX10_spot_32 : decode cX10_spot 32 = .ok (.iload_n 1, 1) := by decide +kernel
theorem dX10_spot_33 : decode cX10_spot 33 = .ok (.invokevirtual 206, 3) := by decide +kernel
theorem dX10_spot_36 : decode cX10_spot 36 = .ok (.ifCond .ne 6, 3) := by decide +kernel
theorem dX10_spot_39 : decode cX10_spot 39 = .ok (.bipush (-3), 2) := by decide +kernel
theorem dX10_spot_41 : decode cX10_spot 41 = .ok (.ireturn, 1) := by decide +kernel
theorem dX10_spot_42 : decode cX10_spot 42 = .ok (.iload_n 2, 1) := by decide +kernel
theorem dX10_spot_43 : decode cX10_spot 43 = .ok (.ifCond .ne 11, 3) := by decide +kernel
theorem dX10_spot_46 : decode cX10_spot 46 = .ok (.aload_n 0, 1) := by decide +kernel
theorem dX10_spot_47 : decode cX10_spot 47 = .ok (.getfield 63, 3) := by decide +kernel
theorem dX10_spot_50 : decode cX10_spot 50 = .ok (.invokevirtual 209, 3) := by decide +kernel
theorem dX10_spot_53 : decode cX10_spot 53 = .ok (.ireturn, 1) := by decide +kernel
theorem dX10_spot_54 : decode cX10_spot 54 = .ok (.iload_n 2, 1) := by decide +kernel
theorem dX10_spot_55 : decode cX10_spot 55 = .ok (.iconst 1, 1) := by decide +kernel
theorem dX10_spot_56 : decode cX10_spot 56 = .ok (.if_icmp .ne 13, 3) := by decide +kernel
theorem dX10_spot_59 : decode cX10_spot 59 = .ok (.aload_n 0, 1) := by decide +kernel
theorem dX10_spot_60 : decode cX10_spot 60 = .ok (.getfield 63, 3) := by decide +kernel
theorem dX10_spot_63 : decode cX10_spot 63 = .ok (.invokevirtual 212, 3) := by decide +kernel
theorem dX10_spot_66 : decode cX10_spot 66 = .ok (.goto 10, 3) := by decide +kernel
theorem dX10_spot_69 : decode cX10_spot 69 = .ok (.aload_n 0, 1) := by decide +kernel
theorem dX10_spot_70 : decode cX10_spot 70 = .ok (.getfield 63, 3) := by decide +kernel
theorem dX10_spot_73 : decode cX10_spot 73 = .ok (.invokevirtual 214, 3) := by decide +kernel
theorem dX10_spot_76 : decode cX10_spot 76 = .ok (.ireturn, 1) := by decide +kernel
theorem dX10_ears_0 : decode cX10_ears 0 = .ok (.iload_n 1, 1) := by decide +kernel
theorem dX10_ears_1 : decode cX10_ears 1 = .ok (.iconst 1, 1) := by decide +kernel
theorem dX10_ears_2 : decode cX10_ears 2 = .ok (.bipush 7, 2) := by decide +kernel
theorem dX10_ears_4 : decode cX10_ears 4 = .ok (.invokestatic 94, 3) := by decide +kernel
theorem dX10_ears_7 : decode cX10_ears 7 = .ok (.ifCond .eq 22, 3) := by decide +kernel
theorem dX10_ears_10 : decode cX10_ears 10 = .ok (.iload_n 2, 1) := by decide +kernel
theorem dX10_ears_11 : decode cX10_ears 11 = .ok (.iconst 1, 1) := by decide +kernel
theorem dX10_ears_12 : decode cX10_ears 12 = .ok (.iconst 5, 1) := by decide +kernel
theorem dX10_ears_13 : decode cX10_ears 13 = .ok (.invokestatic 94, 3) := by decide +kernel
theorem dX10_ears_16 : decode cX10_ears 16 = .ok (.ifCond .eq 13, 3) := by decide +kernel
theorem dX10_ears_19 : decode cX10_ears 19 = .ok (.iload_n 3, 1) := by decide +kernel
theorem dX10_ears_20 : decode cX10_ears 20 = .ok (.iconst 1, 1) := by decide +kernel
theorem dX10_ears_21 : decode cX10_ears 21 = .ok (.bipush 9, 2) := by decide +kernel
theorem dX10_ears_23 : decode cX10_ears 23 = .ok (.invokestatic 94, 3) := by decide +kernel
theorem dX10_ears_26 : decode cX10_ears 26 = .ok (.ifCond .ne 6, 3) := by decide +kernel
theorem dX10_ears_29 : decode cX10_ears 29 = .ok (.bipush (-2), 2) := by decide +kernel
theorem dX10_ears_31 : decode cX10_ears 31 = .ok (.ireturn, 1) := by decide +kernel
theorem dX10_ears_32 : decode cX10_ears 32 = .ok (.aload_n 0, 1) := by decide +kernel
theorem dX10_ears_33 : decode cX10_ears 33 = .ok (.getfield 70, 3) := by decide +kernel
theorem dX10_ears_36 : decode cX10_ears 36 = .ok (.iload_n 1, 1) := by decide +kernel
theorem dX10_ears_37 : decode cX10_ears 37 = .ok (.iload_n 2, 1) := by decide +kernel
theorem dX10_ears_38 : decode cX10_ears 38 = .ok (.iload_n 3, 1) := by decide +kernel
theorem dX10_ears_39 : decode cX10_ears 39 = .ok (.invokevirtual 217, 3) := by decide +kernel
theorem dX10_ears_42 : decode cX10_ears 42 = .ok (.iconst 1, 1) := by decide +kernel
theorem dX10_ears_43 : decode cX10_ears 43 = .ok (.ireturn, 1) := by decide +kernel
theorem dX10_speech_0 : decode cX10_speech 0 = .ok (.iload_n 1, 1) := by decide +kernel
theorem dX10_speech_1 : decode cX10_speech 1 = .ok (.iconst 0, 1) := by decide +kernel
theorem dX10_speech_2 : decode cX10_speech 2 = .ok (.iconst 1, 1) := by decide +kernel
theorem dX10_speech_3 : decode cX10_speech 3 = .ok (.invokestatic 94, 3) := by decide +kernel
theorem dX10_speech_6 : decode cX10_speech 6 = .ok (.ifCond .ne 6, 3) := by decide +kernel
theorem dX10_speech_9 : decode cX10_speech 9 = .ok (.bipush (-2), 2) := by decide +kernel
theorem dX10_speech_11 : decode cX10_speech 11 = .ok (.ireturn, 1) := by decide +kernel
theorem dX10_speech_12 : decode cX10_speech 12 = .ok (.aload_n 0, 1) := by decide +kernel
theorem dX10_speech_13 : decode cX10_speech 13 = .ok (.getfield 70, 3) := by decide +kernel
theorem dX10_speech_16 : decode cX10_speech 16 = .ok (.aload_n 0, 1) := by decide +kernel
theorem dX10_speech_17 : decode cX10_speech 17 = .ok (.getfield 10, 3) := by decide +kernel
theorem dX10_speech_20 : decode cX10_speech 20 = .ok (.invokevirtual 220, 3) := by decide +kernel
theorem dX10_speech_23 : decode cX10_speech 23 = .ok (.istore_n 2, 1) := by decide +kernel
theorem dX10_speech_24 : decode cX10_speech 24 = .ok (.iload_n 2, 1) := by decide +kernel
theorem dX10_speech_25 : decode cX10_speech 25 = .ok (.iconst (-1), 1) := by decide +kernel
theorem dX10_speech_26 : decode cX10_speech 26 = .ok (.if_icmp .ne 6, 3) := by decide +kernel
theorem dX10_speech_29 : decode cX10_speech 29 = .ok (.bipush (-3), 2) := by decide +kernel
theorem dX10_speech_31 : decode cX10_speech 31 = .ok (.ireturn, 1) := by decide +kernel
theorem dX10_speech_32 : decode cX10_speech 32 = .ok (.iload_n 1, 1) := by decide +kernel
theorem dX10_speech_33 : decode cX10_speech 33 = .ok (.ifCond .ne 7, 3) := by decide +kernel
theorem dX10_speech_36 : decode cX10_speech 36 = .ok (.iload_n 2, 1) := by decide +kernel
theorem dX10_speech_37 : decode cX10_speech 37 = .ok (.goto 15, 3) := by decide +kernel
theorem dX10_speech_40 : decode cX10_speech 40 = .ok (.aload_n 0, 1) := by decide +kernel
theorem dX10_speech_41 : decode cX10_speech 41 = .ok (.getfield 70, 3) := by decide +kernel
theorem dX10_speech_44 : decode cX10_speech 44 = .ok (.aload_n 0, 1) := by decide +kernel
theorem dX10_speech_45 : decode cX10_speech 45 = .ok (.getfield 10, 3) := by decide +kernel
theorem dX10_speech_48 : decode cX10_speech 48 = .ok (.iload_n 2, 1) := by decide +kernel
theorem dX10_speech_49 : decode cX10_speech 49 = .ok (.invokevirtual 222, 3) := by decide +kernel
theorem dX10_speech_52 : decode cX10_speech 52 = .ok (.ireturn, 1) := by decide +kernel
theorem dX10_count_0 : decode cX10_count 0 = .ok (.iload_n 1, 1) := by decide +kernel
theorem dX10_count_1 : decode cX10_count 1 = .ok (.tableswitch 83 0 4 #[35, 43, 51, 59, 67], 35) := by decide +kernel
theorem dX10_count_36 : decode cX10_count 36 = .ok (.aload_n 0, 1) := by decide +kernel
theorem dX10_count_37 : decode cX10_count 37 = .ok (.getfield 10, 3) := by decide +kernel
theorem dX10_count_40 : decode cX10_count 40 = .ok (.invokevirtual 78, 3) := by decide +kernel
theorem dX10_count_43 : decode cX10_count 43 = .ok (.ireturn, 1) := by decide +kernel
theorem dX10_count_44 : decode cX10_count 44 = .ok (.aload_n 0, 1) := by decide +kernel
theorem dX10_count_45 : decode cX10_count 45 = .ok (.getfield 19, 3) := by decide +kernel
theorem dX10_count_48 : decode cX10_count 48 = .ok (.invokevirtual 116, 3) := by decide +kernel
theorem dX10_count_51 : decode cX10_count 51 = .ok (.ireturn, 1) := by decide +kernel
theorem dX10_count_52 : decode cX10_count 52 = .ok (.aload_n 0, 1) := by decide +kernel
theorem dX10_count_53 : decode cX10_count 53 = .ok (.getfield 35, 3) := by decide +kernel
theorem dX10_count_56 : decode cX10_count 56 = .ok (.invokevirtual 153, 3) := by decide +kernel
theorem dX10_count_59 : decode cX10_count 59 = .ok (.ireturn, 1) := by decide +kernel
theorem dX10_count_60 : decode cX10_count 60 = .ok (.aload_n 0, 1) := by decide +kernel
theorem dX10_count_61 : decode cX10_count 61 = .ok (.getfield 56, 3) := by decide +kernel
theorem dX10_count_64 : decode cX10_count 64 = .ok (.invokevirtual 193, 3) := by decide +kernel
theorem dX10_count_67 : decode cX10_count 67 = .ok (.ireturn, 1) := by decide +kernel
theorem dX10_count_68 : decode cX10_count 68 = .ok (.aload_n 0, 1) := by decide +kernel
theorem dX10_count_69 : decode cX10_count 69 = .ok (.getfield 42, 3) := by decide +kernel
theorem dX10_count_72 : decode cX10_count 72 = .ok (.invokevirtual 172, 3) := by decide +kernel
theorem dX10_count_75 : decode cX10_count 75 = .ok (.ifCond .eq 7, 3) := by decide +kernel
theorem dX10_count_78 : decode cX10_count 78 = .ok (.iconst 1, 1) := by decide +kernel
theorem dX10_count_79 : decode cX10_count 79 = .ok (.goto 4, 3) := by decide +kernel
theorem dX10_count_82 : decode cX10_count 82 = .ok (.iconst 0, 1) := by decide +kernel
theorem dX10_count_83 : decode cX10_count 83 = .ok (.ireturn, 1) := by decide +kernel
theorem dX10_count_84 : decode cX10_count 84 = .ok (.bipush (-2), 2) := by decide +kernel
theorem dX10_count_86 : decode cX10_count 86 = .ok (.ireturn, 1) := by decide +kernel
theorem dX10_endWhatLeansOnThis_0 : decode cX10_endWhatLeansOnThis 0 = .ok (.aload_n 0, 1) := by decide +kernel
theorem dX10_endWhatLeansOnThis_1 : decode cX10_endWhatLeansOnThis 1 = .ok (.getfield 26, 3) := by decide +kernel
theorem dX10_endWhatLeansOnThis_4 : decode cX10_endWhatLeansOnThis 4 = .ok (.invokevirtual 226, 3) := by decide +kernel
theorem dX10_endWhatLeansOnThis_7 : decode cX10_endWhatLeansOnThis 7 = .ok (.aload_n 0, 1) := by decide +kernel
theorem dX10_endWhatLeansOnThis_8 : decode cX10_endWhatLeansOnThis 8 = .ok (.getfield 42, 3) := by decide +kernel
theorem dX10_endWhatLeansOnThis_11 : decode cX10_endWhatLeansOnThis 11 = .ok (.invokevirtual 164, 3) := by decide +kernel
theorem dX10_endWhatLeansOnThis_14 : decode cX10_endWhatLeansOnThis 14 = .ok (.return_, 1) := by decide +kernel
theorem dX10_isWord_0 : decode cX10_isWord 0 = .ok (.iload_n 1, 1) := by decide +kernel
theorem dX10_isWord_1 : decode cX10_isWord 1 = .ok (.iconst 0, 1) := by decide +kernel
theorem dX10_isWord_2 : decode cX10_isWord 2 = .ok (.aload_n 0, 1) := by decide +kernel
theorem dX10_isWord_3 : decode cX10_isWord 3 = .ok (.getfield 19, 3) := by decide +kernel
theorem dX10_isWord_6 : decode cX10_isWord 6 = .ok (.invokevirtual 116, 3) := by decide +kernel
theorem dX10_isWord_9 : decode cX10_isWord 9 = .ok (.iconst 1, 1) := by decide +kernel
theorem dX10_isWord_10 : decode cX10_isWord 10 = .ok (.isub, 1) := by decide +kernel
theorem dX10_isWord_11 : decode cX10_isWord 11 = .ok (.invokestatic 94, 3) := by decide +kernel
theorem dX10_isWord_14 : decode cX10_isWord 14 = .ok (.ireturn, 1) := by decide +kernel
theorem dX10_isWordOrEdge_0 : decode cX10_isWordOrEdge 0 = .ok (.iload_n 1, 1) := by decide +kernel
theorem dX10_isWordOrEdge_1 : decode cX10_isWordOrEdge 1 = .ok (.iconst (-1), 1) := by decide +kernel
theorem dX10_isWordOrEdge_2 : decode cX10_isWordOrEdge 2 = .ok (.if_icmp .eq 11, 3) := by decide +kernel
theorem dX10_isWordOrEdge_5 : decode cX10_isWordOrEdge 5 = .ok (.aload_n 0, 1) := by decide +kernel
theorem dX10_isWordOrEdge_6 : decode cX10_isWordOrEdge 6 = .ok (.iload_n 1, 1) := by decide +kernel
theorem dX10_isWordOrEdge_7 : decode cX10_isWordOrEdge 7 = .ok (.invokevirtual 126, 3) := by decide +kernel
theorem dX10_isWordOrEdge_10 : decode cX10_isWordOrEdge 10 = .ok (.ifCond .eq 7, 3) := by decide +kernel
theorem dX10_isWordOrEdge_13 : decode cX10_isWordOrEdge 13 = .ok (.iconst 1, 1) := by decide +kernel
theorem dX10_isWordOrEdge_14 : decode cX10_isWordOrEdge 14 = .ok (.goto 4, 3) := by decide +kernel
theorem dX10_isWordOrEdge_17 : decode cX10_isWordOrEdge 17 = .ok (.iconst 0, 1) := by decide +kernel
theorem dX10_isWordOrEdge_18 : decode cX10_isWordOrEdge 18 = .ok (.ireturn, 1) := by decide +kernel
theorem dX10_isMark_0 : decode cX10_isMark 0 = .ok (.iload_n 0, 1) := by decide +kernel
theorem dX10_isMark_1 : decode cX10_isMark 1 = .ok (.iconst 0, 1) := by decide +kernel
theorem dX10_isMark_2 : decode cX10_isMark 2 = .ok (.bipush 7, 2) := by decide +kernel
theorem dX10_isMark_4 : decode cX10_isMark 4 = .ok (.invokestatic 94, 3) := by decide +kernel
theorem dX10_isMark_7 : decode cX10_isMark 7 = .ok (.ireturn, 1) := by decide +kernel
theorem dX10_isSound_0 : decode cX10_isSound 0 = .ok (.iload_n 0, 1) := by decide +kernel
theorem dX10_isSound_1 : decode cX10_isSound 1 = .ok (.iconst 0, 1) := by decide +kernel
theorem dX10_isSound_2 : decode cX10_isSound 2 = .ok (.iconst 5, 1) := by decide +kernel
theorem dX10_isSound_3 : decode cX10_isSound 3 = .ok (.invokestatic 94, 3) := by decide +kernel
theorem dX10_isSound_6 : decode cX10_isSound 6 = .ok (.ireturn, 1) := by decide +kernel
theorem dX10_areSounds_0 : decode cX10_areSounds 0 = .ok (.iload_n 0, 1) := by decide +kernel
theorem dX10_areSounds_1 : decode cX10_areSounds 1 = .ok (.invokestatic 91, 3) := by decide +kernel
theorem dX10_areSounds_4 : decode cX10_areSounds 4 = .ok (.ifCond .eq 31, 3) := by decide +kernel
theorem dX10_areSounds_7 : decode cX10_areSounds 7 = .ok (.iload_n 0, 1) := by decide +kernel
theorem dX10_areSounds_8 : decode cX10_areSounds 8 = .ok (.iload_n 1, 1) := by decide +kernel
theorem dX10_areSounds_9 : decode cX10_areSounds 9 = .ok (.invokestatic 227, 3) := by decide +kernel
theorem dX10_areSounds_12 : decode cX10_areSounds 12 = .ok (.ifCond .eq 23, 3) := by decide +kernel
theorem dX10_areSounds_15 : decode cX10_areSounds 15 = .ok (.iload_n 1, 1) := by decide +kernel
theorem dX10_areSounds_16 : decode cX10_areSounds 16 = .ok (.iload_n 2, 1) := by decide +kernel
theorem dX10_areSounds_17 : decode cX10_areSounds 17 = .ok (.invokestatic 227, 3) := by decide +kernel
theorem dX10_areSounds_20 : decode cX10_areSounds 20 = .ok (.ifCond .eq 15, 3) := by decide +kernel
theorem dX10_areSounds_23 : decode cX10_areSounds 23 = .ok (.iload_n 2, 1) := by decide +kernel
theorem dX10_areSounds_24 : decode cX10_areSounds 24 = .ok (.iload_n 3, 1) := by decide +kernel
theorem dX10_areSounds_25 : decode cX10_areSounds 25 = .ok (.invokestatic 227, 3) := by decide +kernel
theorem dX10_areSounds_28 : decode cX10_areSounds 28 = .ok (.ifCond .eq 7, 3) := by decide +kernel
theorem dX10_areSounds_31 : decode cX10_areSounds 31 = .ok (.iconst 1, 1) := by decide +kernel
theorem dX10_areSounds_32 : decode cX10_areSounds 32 = .ok (.goto 4, 3) := by decide +kernel
theorem dX10_areSounds_35 : decode cX10_areSounds 35 = .ok (.iconst 0, 1) := by decide +kernel
theorem dX10_areSounds_36 : decode cX10_areSounds 36 = .ok (.ireturn, 1) := by decide +kernel
theorem dX10_mayFollow_0 : decode cX10_mayFollow 0 = .ok (.iload_n 1, 1) := by decide +kernel
theorem dX10_mayFollow_1 : decode cX10_mayFollow 1 = .ok (.iconst (-1), 1) := by decide +kernel
theorem dX10_mayFollow_2 : decode cX10_mayFollow 2 = .ok (.if_icmp .eq 15, 3) := by decide +kernel
theorem dX10_mayFollow_5 : decode cX10_mayFollow 5 = .ok (.iload_n 1, 1) := by decide +kernel
theorem dX10_mayFollow_6 : decode cX10_mayFollow 6 = .ok (.invokestatic 91, 3) := by decide +kernel
theorem dX10_mayFollow_9 : decode cX10_mayFollow 9 = .ok (.ifCond .eq 12, 3) := by decide +kernel
theorem dX10_mayFollow_12 : decode cX10_mayFollow 12 = .ok (.iload_n 0, 1) := by decide +kernel
theorem dX10_mayFollow_13 : decode cX10_mayFollow 13 = .ok (.iconst (-1), 1) := by decide +kernel
theorem dX10_mayFollow_14 : decode cX10_mayFollow 14 = .ok (.if_icmp .eq 7, 3) := by decide +kernel
theorem dX10_mayFollow_17 : decode cX10_mayFollow 17 = .ok (.iconst 1, 1) := by decide +kernel
theorem dX10_mayFollow_18 : decode cX10_mayFollow 18 = .ok (.goto 4, 3) := by decide +kernel
theorem dX10_mayFollow_21 : decode cX10_mayFollow 21 = .ok (.iconst 0, 1) := by decide +kernel
theorem dX10_mayFollow_22 : decode cX10_mayFollow 22 = .ok (.ireturn, 1) := by decide +kernel
theorem dX10_within_0 : decode cX10_within 0 = .ok (.iload_n 0, 1) := by decide +kernel
theorem dX10_within_1 : decode cX10_within 1 = .ok (.iload_n 1, 1) := by decide +kernel
theorem dX10_within_2 : decode cX10_within 2 = .ok (.if_icmp .lt 12, 3) := by decide +kernel
theorem dX10_within_5 : decode cX10_within 5 = .ok (.iload_n 0, 1) := by decide +kernel
theorem dX10_within_6 : decode cX10_within 6 = .ok (.iload_n 2, 1) := by decide +kernel
theorem dX10_within_7 : decode cX10_within 7 = .ok (.if_icmp .gt 7, 3) := by decide +kernel
theorem dX10_within_10 : decode cX10_within 10 = .ok (.iconst 1, 1) := by decide +kernel
theorem dX10_within_11 : decode cX10_within 11 = .ok (.goto 4, 3) := by decide +kernel
theorem dX10_within_14 : decode cX10_within 14 = .ok (.iconst 0, 1) := by decide +kernel
theorem dX10_within_15 : decode cX10_within 15 = .ok (.ireturn, 1) := by decide +kernel
theorem dX11_init_0 : decode cX11_init 0 = .ok (.aload_n 0, 1) := by decide +kernel
theorem dX11_init_1 : decode cX11_init 1 = .ok (.invokespecial 1, 3) := by decide +kernel
theorem dX11_init_4 : decode cX11_init 4 = .ok (.aload_n 0, 1) := by decide +kernel
theorem dX11_init_5 : decode cX11_init 5 = .ok (.bipush 40, 2) := by decide +kernel
theorem dX11_init_7 : decode cX11_init 7 = .ok (.newarray .int, 2) := by decide +kernel
theorem dX11_init_9 : decode cX11_init 9 = .ok (.putfield 7, 3) := by decide +kernel
theorem dX11_init_12 : decode cX11_init 12 = .ok (.aload_n 0, 1) := by decide +kernel
theorem dX11_init_13 : decode cX11_init 13 = .ok (.bipush 48, 2) := by decide +kernel
theorem dX11_init_15 : decode cX11_init 15 = .ok (.newarray .int, 2) := by decide +kernel
theorem dX11_init_17 : decode cX11_init 17 = .ok (.putfield 13, 3) := by decide +kernel
theorem dX11_init_20 : decode cX11_init 20 = .ok (.aload_n 0, 1) := by decide +kernel
theorem dX11_init_21 : decode cX11_init 21 = .ok (.iconst 1, 1) := by decide +kernel
theorem dX11_init_22 : decode cX11_init 22 = .ok (.putfield 16, 3) := by decide +kernel
theorem dX11_init_25 : decode cX11_init 25 = .ok (.aload_n 0, 1) := by decide +kernel
theorem dX11_init_26 : decode cX11_init 26 = .ok (.bipush 8, 2) := by decide +kernel
theorem dX11_init_28 : decode cX11_init 28 = .ok (.newarray .int, 2) := by decide +kernel
theorem dX11_init_30 : decode cX11_init 30 = .ok (.putfield 20, 3) := by decide +kernel
theorem dX11_init_33 : decode cX11_init 33 = .ok (.aload_n 0, 1) := by decide +kernel
theorem dX11_init_34 : decode cX11_init 34 = .ok (.bipush 16, 2) := by decide +kernel
theorem dX11_init_36 : decode cX11_init 36 = .ok (.newarray .int, 2) := by decide +kernel
theorem dX11_init_38 : decode cX11_init 38 = .ok (.putfield 23, 3) := by decide +kernel
theorem dX11_init_41 : decode cX11_init 41 = .ok (.aload_n 0, 1) := by decide +kernel
theorem dX11_init_42 : decode cX11_init 42 = .ok (.bipush 64, 2) := by decide +kernel
theorem dX11_init_44 : decode cX11_init 44 = .ok (.newarray .int, 2) := by decide +kernel
theorem dX11_init_46 : decode cX11_init 46 = .ok (.putfield 26, 3) := by decide +kernel
theorem dX11_init_49 : decode cX11_init 49 = .ok (.aload_n 0, 1) := by decide +kernel
theorem dX11_init_50 : decode cX11_init 50 = .ok (.bipush 81, 2) := by decide +kernel
theorem dX11_init_52 : decode cX11_init 52 = .ok (.newarray .int, 2) := by decide +kernel
theorem dX11_init_54 : decode cX11_init 54 = .ok (.putfield 29, 3) := by decide +kernel
theorem dX11_init_57 : decode cX11_init 57 = .ok (.aload_n 0, 1) := by decide +kernel
theorem dX11_init_58 : decode cX11_init 58 = .ok (.bipush 12, 2) := by decide +kernel
theorem dX11_init_60 : decode cX11_init 60 = .ok (.newarray .int, 2) := by decide +kernel
theorem dX11_init_62 : decode cX11_init 62 = .ok (.putfield 32, 3) := by decide +kernel
theorem dX11_init_65 : decode cX11_init 65 = .ok (.aload_n 0, 1) := by decide +kernel
theorem dX11_init_66 : decode cX11_init 66 = .ok (.bipush 40, 2) := by decide +kernel
theorem dX11_init_68 : decode cX11_init 68 = .ok (.newarray .int, 2) := by decide +kernel
theorem dX11_init_70 : decode cX11_init 70 = .ok (.putfield 35, 3) := by decide +kernel
theorem dX11_init_73 : decode cX11_init 73 = .ok (.aload_n 0, 1) := by decide +kernel
theorem dX11_init_74 : decode cX11_init 74 = .ok (.bipush 40, 2) := by decide +kernel
theorem dX11_init_76 : decode cX11_init 76 = .ok (.newarray .int, 2) := by decide +kernel
theorem dX11_init_78 : decode cX11_init 78 = .ok (.putfield 38, 3) := by decide +kernel
theorem dX11_init_81 : decode cX11_init 81 = .ok (.aload_n 0, 1) := by decide +kernel
theorem dX11_init_82 : decode cX11_init 82 = .ok (.bipush 40, 2) := by decide +kernel
theorem dX11_init_84 : decode cX11_init 84 = .ok (.newarray .int, 2) := by decide +kernel
theorem dX11_init_86 : decode cX11_init 86 = .ok (.putfield 41, 3) := by decide +kernel
theorem dX11_init_89 : decode cX11_init 89 = .ok (.aload_n 0, 1) := by decide +kernel
theorem dX11_init_90 : decode cX11_init 90 = .ok (.bipush 48, 2) := by decide +kernel
theorem dX11_init_92 : decode cX11_init 92 = .ok (.newarray .int, 2) := by decide +kernel
theorem dX11_init_94 : decode cX11_init 94 = .ok (.putfield 44, 3) := by decide +kernel
theorem dX11_init_97 : decode cX11_init 97 = .ok (.aload_n 0, 1) := by decide +kernel
theorem dX11_init_98 : decode cX11_init 98 = .ok (.bipush 16, 2) := by decide +kernel
theorem dX11_init_100 : decode cX11_init 100 = .ok (.newarray .int, 2) := by decide +kernel
theorem dX11_init_102 : decode cX11_init 102 = .ok (.putfield 47, 3) := by decide +kernel
theorem dX11_init_105 : decode cX11_init 105 = .ok (.aload_n 0, 1) := by decide +kernel
theorem dX11_init_106 : decode cX11_init 106 = .ok (.sipush 640, 3) := by decide +kernel
theorem dX11_init_109 : decode cX11_init 109 = .ok (.newarray .int, 2) := by decide +kernel
theorem dX11_init_111 : decode cX11_init 111 = .ok (.putfield 50, 3) := by decide +kernel
theorem dX11_init_114 : decode cX11_init 114 = .ok (.aload_n 0, 1) := by decide +kernel
theorem dX11_init_115 : decode cX11_init 115 = .ok (.iconst 1, 1) := by decide +kernel
theorem dX11_init_116 : decode cX11_init 116 = .ok (.putfield 53, 3) := by decide +kernel
theorem dX11_init_119 : decode cX11_init 119 = .ok (.aload_n 0, 1) := by decide +kernel
theorem dX11_init_120 : decode cX11_init 120 = .ok (.iconst 2, 1) := by decide +kernel
theorem dX11_init_121 : decode cX11_init 121 = .ok (.putfield 56, 3) := by decide +kernel
theorem dX11_init_124 : decode cX11_init 124 = .ok (.aload_n 0, 1) := by decide +kernel
theorem dX11_init_125 : decode cX11_init 125 = .ok (.iconst 3, 1) := by decide +kernel
theorem dX11_init_126 : decode cX11_init 126 = .ok (.putfield 59, 3) := by decide +kernel
theorem dX11_init_129 : decode cX11_init 129 = .ok (.aload_n 0, 1) := by decide +kernel
theorem dX11_init_130 : decode cX11_init 130 = .ok (.sipush 13448, 3) := by decide +kernel
theorem dX11_init_133 : decode cX11_init 133 = .ok (.newarray .int, 2) := by decide +kernel
