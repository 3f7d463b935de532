-- DECODE ROWS of the methods, as the claim's program prints them
theorem d_M_firstOpen_0 : decode y_M_firstOpen.2.1 0 = .ok (.iconst 0, 1) := by decide +kernel
theorem d_M_firstOpen_1 : decode y_M_firstOpen.2.1 1 = .ok (.istore_n 3, 1) := by decide +kernel
theorem d_M_firstOpen_2 : decode y_M_firstOpen.2.1 2 = .ok (.iload_n 3, 1) := by decide +kernel
theorem d_M_firstOpen_3 : decode y_M_firstOpen.2.1 3 = .ok (.aload_n 0, 1) := by decide +kernel
theorem d_M_firstOpen_4 : decode y_M_firstOpen.2.1 4 = .ok (.getfield 14, 3) := by decide +kernel
theorem d_M_firstOpen_7 : decode y_M_firstOpen.2.1 7 = .ok (.if_icmp .ge 32, 3) := by decide +kernel
theorem d_M_firstOpen_10 : decode y_M_firstOpen.2.1 10 = .ok (.iload_n 1, 1) := by decide +kernel
theorem d_M_firstOpen_11 : decode y_M_firstOpen.2.1 11 = .ok (.iload_n 3, 1) := by decide +kernel
theorem d_M_firstOpen_12 : decode y_M_firstOpen.2.1 12 = .ok (.invokestatic 29, 3) := by decide +kernel
theorem d_M_firstOpen_15 : decode y_M_firstOpen.2.1 15 = .ok (.ifCond .eq 18, 3) := by decide +kernel
theorem d_M_firstOpen_18 : decode y_M_firstOpen.2.1 18 = .ok (.aload_n 0, 1) := by decide +kernel
theorem d_M_firstOpen_19 : decode y_M_firstOpen.2.1 19 = .ok (.bipush 20, 2) := by decide +kernel
theorem d_M_firstOpen_21 : decode y_M_firstOpen.2.1 21 = .ok (.iload_n 2, 1) := by decide +kernel
theorem d_M_firstOpen_22 : decode y_M_firstOpen.2.1 22 = .ok (.imul, 1) := by decide +kernel
theorem d_M_firstOpen_23 : decode y_M_firstOpen.2.1 23 = .ok (.iload_n 3, 1) := by decide +kernel
theorem d_M_firstOpen_24 : decode y_M_firstOpen.2.1 24 = .ok (.iadd, 1) := by decide +kernel
theorem d_M_firstOpen_25 : decode y_M_firstOpen.2.1 25 = .ok (.invokevirtual 226, 3) := by decide +kernel
theorem d_M_firstOpen_28 : decode y_M_firstOpen.2.1 28 = .ok (.ifCond .ne 5, 3) := by decide +kernel
theorem d_M_firstOpen_31 : decode y_M_firstOpen.2.1 31 = .ok (.iload_n 3, 1) := by decide +kernel
theorem d_M_firstOpen_32 : decode y_M_firstOpen.2.1 32 = .ok (.ireturn, 1) := by decide +kernel
theorem d_M_firstOpen_33 : decode y_M_firstOpen.2.1 33 = .ok (.iinc 3 1, 3) := by decide +kernel
theorem d_M_firstOpen_36 : decode y_M_firstOpen.2.1 36 = .ok (.goto (-34), 3) := by decide +kernel
theorem d_M_firstOpen_39 : decode y_M_firstOpen.2.1 39 = .ok (.iconst (-1), 1) := by decide +kernel
theorem d_M_firstOpen_40 : decode y_M_firstOpen.2.1 40 = .ok (.ireturn, 1) := by decide +kernel
theorem d_M_helps_0 : decode y_M_helps.2.1 0 = .ok (.aload_n 0, 1) := by decide +kernel
theorem d_M_helps_1 : decode y_M_helps.2.1 1 = .ok (.iload_n 1, 1) := by decide +kernel
theorem d_M_helps_2 : decode y_M_helps.2.1 2 = .ok (.invokevirtual 226, 3) := by decide +kernel
theorem d_M_helps_5 : decode y_M_helps.2.1 5 = .ok (.ifCond .ge 5, 3) := by decide +kernel
theorem d_M_helps_8 : decode y_M_helps.2.1 8 = .ok (.iconst 0, 1) := by decide +kernel
theorem d_M_helps_9 : decode y_M_helps.2.1 9 = .ok (.ireturn, 1) := by decide +kernel
theorem d_M_helps_10 : decode y_M_helps.2.1 10 = .ok (.aload_n 0, 1) := by decide +kernel
theorem d_M_helps_11 : decode y_M_helps.2.1 11 = .ok (.invokevirtual 250, 3) := by decide +kernel
theorem d_M_helps_14 : decode y_M_helps.2.1 14 = .ok (.aload_n 0, 1) := by decide +kernel
theorem d_M_helps_15 : decode y_M_helps.2.1 15 = .ok (.iload_n 1, 1) := by decide +kernel
theorem d_M_helps_16 : decode y_M_helps.2.1 16 = .ok (.invokevirtual 229, 3) := by decide +kernel
theorem d_M_helps_19 : decode y_M_helps.2.1 19 = .ok (.pop, 1) := by decide +kernel
theorem d_M_helps_20 : decode y_M_helps.2.1 20 = .ok (.aload_n 0, 1) := by decide +kernel
theorem d_M_helps_21 : decode y_M_helps.2.1 21 = .ok (.iload_n 2, 1) := by decide +kernel
theorem d_M_helps_22 : decode y_M_helps.2.1 22 = .ok (.iload_n 3, 1) := by decide +kernel
theorem d_M_helps_23 : decode y_M_helps.2.1 23 = .ok (.invokevirtual 290, 3) := by decide +kernel
theorem d_M_helps_26 : decode y_M_helps.2.1 26 = .ok (.ifCond .lt 7, 3) := by decide +kernel
theorem d_M_helps_29 : decode y_M_helps.2.1 29 = .ok (.iconst 1, 1) := by decide +kernel
theorem d_M_helps_30 : decode y_M_helps.2.1 30 = .ok (.goto 4, 3) := by decide +kernel
theorem d_M_helps_33 : decode y_M_helps.2.1 33 = .ok (.iconst 0, 1) := by decide +kernel
theorem d_M_helps_34 : decode y_M_helps.2.1 34 = .ok (.istore 4, 2) := by decide +kernel
theorem d_M_helps_36 : decode y_M_helps.2.1 36 = .ok (.aload_n 0, 1) := by decide +kernel
theorem d_M_helps_37 : decode y_M_helps.2.1 37 = .ok (.invokevirtual 254, 3) := by decide +kernel
theorem d_M_helps_40 : decode y_M_helps.2.1 40 = .ok (.iload 4, 2) := by decide +kernel
theorem d_M_helps_42 : decode y_M_helps.2.1 42 = .ok (.ireturn, 1) := by decide +kernel
theorem d_M_does_0 : decode y_M_does.2.1 0 = .ok (.aload_n 0, 1) := by decide +kernel
theorem d_M_does_1 : decode y_M_does.2.1 1 = .ok (.getfield 257, 3) := by decide +kernel
theorem d_M_does_4 : decode y_M_does.2.1 4 = .ok (.iload_n 1, 1) := by decide +kernel
theorem d_M_does_5 : decode y_M_does.2.1 5 = .ok (.iaload, 1) := by decide +kernel
theorem d_M_does_6 : decode y_M_does.2.1 6 = .ok (.istore_n 2, 1) := by decide +kernel
theorem d_M_does_7 : decode y_M_does.2.1 7 = .ok (.aload_n 0, 1) := by decide +kernel
theorem d_M_does_8 : decode y_M_does.2.1 8 = .ok (.iload_n 1, 1) := by decide +kernel
theorem d_M_does_9 : decode y_M_does.2.1 9 = .ok (.invokevirtual 272, 3) := by decide +kernel
theorem d_M_does_12 : decode y_M_does.2.1 12 = .ok (.istore_n 3, 1) := by decide +kernel
theorem d_M_does_13 : decode y_M_does.2.1 13 = .ok (.iload_n 3, 1) := by decide +kernel
theorem d_M_does_14 : decode y_M_does.2.1 14 = .ok (.aload_n 0, 1) := by decide +kernel
theorem d_M_does_15 : decode y_M_does.2.1 15 = .ok (.getfield 154, 3) := by decide +kernel
theorem d_M_does_18 : decode y_M_does.2.1 18 = .ok (.iload_n 2, 1) := by decide +kernel
theorem d_M_does_19 : decode y_M_does.2.1 19 = .ok (.iaload, 1) := by decide +kernel
theorem d_M_does_20 : decode y_M_does.2.1 20 = .ok (.iand, 1) := by decide +kernel
theorem d_M_does_21 : decode y_M_does.2.1 21 = .ok (.istore 4, 2) := by decide +kernel
theorem d_M_does_23 : decode y_M_does.2.1 23 = .ok (.iload 4, 2) := by decide +kernel
theorem d_M_does_25 : decode y_M_does.2.1 25 = .ok (.ifCond .eq 24, 3) := by decide +kernel
theorem d_M_does_28 : decode y_M_does.2.1 28 = .ok (.iload 4, 2) := by decide +kernel
theorem d_M_does_30 : decode y_M_does.2.1 30 = .ok (.invokestatic 293, 3) := by decide +kernel
theorem d_M_does_33 : decode y_M_does.2.1 33 = .ok (.istore 5, 2) := by decide +kernel
theorem d_M_does_35 : decode y_M_does.2.1 35 = .ok (.aload_n 0, 1) := by decide +kernel
theorem d_M_does_36 : decode y_M_does.2.1 36 = .ok (.iload_n 1, 1) := by decide +kernel
theorem d_M_does_37 : decode y_M_does.2.1 37 = .ok (.iload 5, 2) := by decide +kernel
theorem d_M_does_39 : decode y_M_does.2.1 39 = .ok (.invokevirtual 269, 3) := by decide +kernel
theorem d_M_does_42 : decode y_M_does.2.1 42 = .ok (.pop, 1) := by decide +kernel
theorem d_M_does_43 : decode y_M_does.2.1 43 = .ok (.bipush 20, 2) := by decide +kernel
theorem d_M_does_45 : decode y_M_does.2.1 45 = .ok (.iload 5, 2) := by decide +kernel
theorem d_M_does_47 : decode y_M_does.2.1 47 = .ok (.iadd, 1) := by decide +kernel
theorem d_M_does_48 : decode y_M_does.2.1 48 = .ok (.ireturn, 1) := by decide +kernel
theorem d_M_does_49 : decode y_M_does.2.1 49 = .ok (.aload_n 0, 1) := by decide +kernel
theorem d_M_does_50 : decode y_M_does.2.1 50 = .ok (.iload_n 3, 1) := by decide +kernel
theorem d_M_does_51 : decode y_M_does.2.1 51 = .ok (.iload_n 2, 1) := by decide +kernel
theorem d_M_does_52 : decode y_M_does.2.1 52 = .ok (.invokevirtual 290, 3) := by decide +kernel
theorem d_M_does_55 : decode y_M_does.2.1 55 = .ok (.istore 5, 2) := by decide +kernel
theorem d_M_does_57 : decode y_M_does.2.1 57 = .ok (.iconst 0, 1) := by decide +kernel
theorem d_M_does_58 : decode y_M_does.2.1 58 = .ok (.istore 6, 2) := by decide +kernel
theorem d_M_does_60 : decode y_M_does.2.1 60 = .ok (.iload 6, 2) := by decide +kernel
theorem d_M_does_62 : decode y_M_does.2.1 62 = .ok (.aload_n 0, 1) := by decide +kernel
theorem d_M_does_63 : decode y_M_does.2.1 63 = .ok (.getfield 14, 3) := by decide +kernel
theorem d_M_does_66 : decode y_M_does.2.1 66 = .ok (.if_icmp .ge 39, 3) := by decide +kernel
theorem d_M_does_69 : decode y_M_does.2.1 69 = .ok (.iload 5, 2) := by decide +kernel
theorem d_M_does_71 : decode y_M_does.2.1 71 = .ok (.ifCond .ge 34, 3) := by decide +kernel
theorem d_M_does_74 : decode y_M_does.2.1 74 = .ok (.aload_n 0, 1) := by decide +kernel
theorem d_M_does_75 : decode y_M_does.2.1 75 = .ok (.bipush 20, 2) := by decide +kernel
theorem d_M_does_77 : decode y_M_does.2.1 77 = .ok (.iload_n 2, 1) := by decide +kernel
theorem d_M_does_78 : decode y_M_does.2.1 78 = .ok (.imul, 1) := by decide +kernel
theorem d_M_does_79 : decode y_M_does.2.1 79 = .ok (.iload 6, 2) := by decide +kernel
theorem d_M_does_81 : decode y_M_does.2.1 81 = .ok (.iadd, 1) := by decide +kernel
theorem d_M_does_82 : decode y_M_does.2.1 82 = .ok (.iload_n 3, 1) := by decide +kernel
theorem d_M_does_83 : decode y_M_does.2.1 83 = .ok (.iload_n 2, 1) := by decide +kernel
theorem d_M_does_84 : decode y_M_does.2.1 84 = .ok (.invokevirtual 296, 3) := by decide +kernel
theorem d_M_does_87 : decode y_M_does.2.1 87 = .ok (.ifCond .eq 8, 3) := by decide +kernel
theorem d_M_does_90 : decode y_M_does.2.1 90 = .ok (.iload 6, 2) := by decide +kernel
theorem d_M_does_92 : decode y_M_does.2.1 92 = .ok (.goto 5, 3) := by decide +kernel
theorem d_M_does_95 : decode y_M_does.2.1 95 = .ok (.iload 5, 2) := by decide +kernel
theorem d_M_does_97 : decode y_M_does.2.1 97 = .ok (.istore 5, 2) := by decide +kernel
theorem d_M_does_99 : decode y_M_does.2.1 99 = .ok (.iinc 6 1, 3) := by decide +kernel
theorem d_M_does_102 : decode y_M_does.2.1 102 = .ok (.goto (-42), 3) := by decide +kernel
theorem d_M_does_105 : decode y_M_does.2.1 105 = .ok (.iload 5, 2) := by decide +kernel
theorem d_M_does_107 : decode y_M_does.2.1 107 = .ok (.ifCond .lt 21, 3) := by decide +kernel
theorem d_M_does_110 : decode y_M_does.2.1 110 = .ok (.aload_n 0, 1) := by decide +kernel
theorem d_M_does_111 : decode y_M_does.2.1 111 = .ok (.bipush 20, 2) := by decide +kernel
theorem d_M_does_113 : decode y_M_does.2.1 113 = .ok (.iload_n 2, 1) := by decide +kernel
theorem d_M_does_114 : decode y_M_does.2.1 114 = .ok (.imul, 1) := by decide +kernel
theorem d_M_does_115 : decode y_M_does.2.1 115 = .ok (.iload 5, 2) := by decide +kernel
theorem d_M_does_117 : decode y_M_does.2.1 117 = .ok (.iadd, 1) := by decide +kernel
theorem d_M_does_118 : decode y_M_does.2.1 118 = .ok (.invokevirtual 229, 3) := by decide +kernel
theorem d_M_does_121 : decode y_M_does.2.1 121 = .ok (.pop, 1) := by decide +kernel
theorem d_M_does_122 : decode y_M_does.2.1 122 = .ok (.bipush 40, 2) := by decide +kernel
theorem d_M_does_124 : decode y_M_does.2.1 124 = .ok (.iload 5, 2) := by decide +kernel
theorem d_M_does_126 : decode y_M_does.2.1 126 = .ok (.iadd, 1) := by decide +kernel
theorem d_M_does_127 : decode y_M_does.2.1 127 = .ok (.ireturn, 1) := by decide +kernel
theorem d_M_does_128 : decode y_M_does.2.1 128 = .ok (.iconst 0, 1) := by decide +kernel
theorem d_M_does_129 : decode y_M_does.2.1 129 = .ok (.istore 6, 2) := by decide +kernel
theorem d_M_does_131 : decode y_M_does.2.1 131 = .ok (.iload 6, 2) := by decide +kernel
theorem d_M_does_133 : decode y_M_does.2.1 133 = .ok (.aload_n 0, 1) := by decide +kernel
theorem d_M_does_134 : decode y_M_does.2.1 134 = .ok (.getfield 14, 3) := by decide +kernel
theorem d_M_does_137 : decode y_M_does.2.1 137 = .ok (.if_icmp .ge 53, 3) := by decide +kernel
theorem d_M_does_140 : decode y_M_does.2.1 140 = .ok (.aload_n 0, 1) := by decide +kernel
theorem d_M_does_141 : decode y_M_does.2.1 141 = .ok (.getfield 154, 3) := by decide +kernel
theorem d_M_does_144 : decode y_M_does.2.1 144 = .ok (.iload_n 2, 1) := by decide +kernel
theorem d_M_does_145 : decode y_M_does.2.1 145 = .ok (.iaload, 1) := by decide +kernel
theorem d_M_does_146 : decode y_M_does.2.1 146 = .ok (.iload 6, 2) := by decide +kernel
theorem d_M_does_148 : decode y_M_does.2.1 148 = .ok (.invokestatic 29, 3) := by decide +kernel
theorem d_M_does_151 : decode y_M_does.2.1 151 = .ok (.ifCond .eq 33, 3) := by decide +kernel
theorem d_M_does_154 : decode y_M_does.2.1 154 = .ok (.aload_n 0, 1) := by decide +kernel
theorem d_M_does_155 : decode y_M_does.2.1 155 = .ok (.bipush 60, 2) := by decide +kernel
theorem d_M_does_157 : decode y_M_does.2.1 157 = .ok (.iload 6, 2) := by decide +kernel
theorem d_M_does_159 : decode y_M_does.2.1 159 = .ok (.iadd, 1) := by decide +kernel
theorem d_M_does_160 : decode y_M_does.2.1 160 = .ok (.iload_n 3, 1) := by decide +kernel
theorem d_M_does_161 : decode y_M_does.2.1 161 = .ok (.iload_n 2, 1) := by decide +kernel
theorem d_M_does_162 : decode y_M_does.2.1 162 = .ok (.invokevirtual 296, 3) := by decide +kernel
theorem d_M_does_165 : decode y_M_does.2.1 165 = .ok (.ifCond .eq 19, 3) := by decide +kernel
theorem d_M_does_168 : decode y_M_does.2.1 168 = .ok (.aload_n 0, 1) := by decide +kernel
theorem d_M_does_169 : decode y_M_does.2.1 169 = .ok (.bipush 60, 2) := by decide +kernel
theorem d_M_does_171 : decode y_M_does.2.1 171 = .ok (.iload 6, 2) := by decide +kernel
theorem d_M_does_173 : decode y_M_does.2.1 173 = .ok (.iadd, 1) := by decide +kernel
theorem d_M_does_174 : decode y_M_does.2.1 174 = .ok (.invokevirtual 229, 3) := by decide +kernel
theorem d_M_does_177 : decode y_M_does.2.1 177 = .ok (.pop, 1) := by decide +kernel
theorem d_M_does_178 : decode y_M_does.2.1 178 = .ok (.bipush 60, 2) := by decide +kernel
theorem d_M_does_180 : decode y_M_does.2.1 180 = .ok (.iload 6, 2) := by decide +kernel
theorem d_M_does_182 : decode y_M_does.2.1 182 = .ok (.iadd, 1) := by decide +kernel
theorem d_M_does_183 : decode y_M_does.2.1 183 = .ok (.ireturn, 1) := by decide +kernel
theorem d_M_does_184 : decode y_M_does.2.1 184 = .ok (.iinc 6 1, 3) := by decide +kernel
theorem d_M_does_187 : decode y_M_does.2.1 187 = .ok (.goto (-56), 3) := by decide +kernel
theorem d_M_does_190 : decode y_M_does.2.1 190 = .ok (.iconst 0, 1) := by decide +kernel
theorem d_M_does_191 : decode y_M_does.2.1 191 = .ok (.ireturn, 1) := by decide +kernel
theorem d_M_goesHour_0 : decode y_M_goesHour.2.1 0 = .ok (.aload_n 0, 1) := by decide +kernel
theorem d_M_goesHour_1 : decode y_M_goesHour.2.1 1 = .ok (.invokevirtual 299, 3) := by decide +kernel
theorem d_M_goesHour_4 : decode y_M_goesHour.2.1 4 = .ok (.iconst 0, 1) := by decide +kernel
theorem d_M_goesHour_5 : decode y_M_goesHour.2.1 5 = .ok (.istore_n 1, 1) := by decide +kernel
theorem d_M_goesHour_6 : decode y_M_goesHour.2.1 6 = .ok (.iconst 0, 1) := by decide +kernel
theorem d_M_goesHour_7 : decode y_M_goesHour.2.1 7 = .ok (.istore_n 2, 1) := by decide +kernel
theorem d_M_goesHour_8 : decode y_M_goesHour.2.1 8 = .ok (.iload_n 2, 1) := by decide +kernel
theorem d_M_goesHour_9 : decode y_M_goesHour.2.1 9 = .ok (.aload_n 0, 1) := by decide +kernel
theorem d_M_goesHour_10 : decode y_M_goesHour.2.1 10 = .ok (.getfield 23, 3) := by decide +kernel
theorem d_M_goesHour_13 : decode y_M_goesHour.2.1 13 = .ok (.if_icmp .ge 49, 3) := by decide +kernel
theorem d_M_goesHour_16 : decode y_M_goesHour.2.1 16 = .ok (.aload_n 0, 1) := by decide +kernel
theorem d_M_goesHour_17 : decode y_M_goesHour.2.1 17 = .ok (.aload_n 0, 1) := by decide +kernel
theorem d_M_goesHour_18 : decode y_M_goesHour.2.1 18 = .ok (.getfield 281, 3) := by decide +kernel
theorem d_M_goesHour_21 : decode y_M_goesHour.2.1 21 = .ok (.iload_n 2, 1) := by decide +kernel
theorem d_M_goesHour_22 : decode y_M_goesHour.2.1 22 = .ok (.iaload, 1) := by decide +kernel
theorem d_M_goesHour_23 : decode y_M_goesHour.2.1 23 = .ok (.invokevirtual 302, 3) := by decide +kernel
theorem d_M_goesHour_26 : decode y_M_goesHour.2.1 26 = .ok (.istore_n 3, 1) := by decide +kernel
theorem d_M_goesHour_27 : decode y_M_goesHour.2.1 27 = .ok (.aload_n 0, 1) := by decide +kernel
theorem d_M_goesHour_28 : decode y_M_goesHour.2.1 28 = .ok (.bipush 100, 2) := by decide +kernel
theorem d_M_goesHour_30 : decode y_M_goesHour.2.1 30 = .ok (.aload_n 0, 1) := by decide +kernel
theorem d_M_goesHour_31 : decode y_M_goesHour.2.1 31 = .ok (.getfield 281, 3) := by decide +kernel
theorem d_M_goesHour_34 : decode y_M_goesHour.2.1 34 = .ok (.iload_n 2, 1) := by decide +kernel
theorem d_M_goesHour_35 : decode y_M_goesHour.2.1 35 = .ok (.iaload, 1) := by decide +kernel
theorem d_M_goesHour_36 : decode y_M_goesHour.2.1 36 = .ok (.imul, 1) := by decide +kernel
theorem d_M_goesHour_37 : decode y_M_goesHour.2.1 37 = .ok (.iload_n 3, 1) := by decide +kernel
theorem d_M_goesHour_38 : decode y_M_goesHour.2.1 38 = .ok (.iadd, 1) := by decide +kernel
theorem d_M_goesHour_39 : decode y_M_goesHour.2.1 39 = .ok (.invokevirtual 305, 3) := by decide +kernel
theorem d_M_goesHour_42 : decode y_M_goesHour.2.1 42 = .ok (.iload_n 1, 1) := by decide +kernel
theorem d_M_goesHour_43 : decode y_M_goesHour.2.1 43 = .ok (.ifCond .ne 7, 3) := by decide +kernel
theorem d_M_goesHour_46 : decode y_M_goesHour.2.1 46 = .ok (.iload_n 3, 1) := by decide +kernel
theorem d_M_goesHour_47 : decode y_M_goesHour.2.1 47 = .ok (.ifCond .le 7, 3) := by decide +kernel
theorem d_M_goesHour_50 : decode y_M_goesHour.2.1 50 = .ok (.iconst 1, 1) := by decide +kernel
theorem d_M_goesHour_51 : decode y_M_goesHour.2.1 51 = .ok (.goto 4, 3) := by decide +kernel
theorem d_M_goesHour_54 : decode y_M_goesHour.2.1 54 = .ok (.iconst 0, 1) := by decide +kernel
theorem d_M_goesHour_55 : decode y_M_goesHour.2.1 55 = .ok (.istore_n 1, 1) := by decide +kernel
theorem d_M_goesHour_56 : decode y_M_goesHour.2.1 56 = .ok (.iinc 2 1, 3) := by decide +kernel
theorem d_M_goesHour_59 : decode y_M_goesHour.2.1 59 = .ok (.goto (-51), 3) := by decide +kernel
theorem d_M_goesHour_62 : decode y_M_goesHour.2.1 62 = .ok (.aload_n 0, 1) := by decide +kernel
theorem d_M_goesHour_63 : decode y_M_goesHour.2.1 63 = .ok (.dup, 1) := by decide +kernel
theorem d_M_goesHour_64 : decode y_M_goesHour.2.1 64 = .ok (.getfield 308, 3) := by decide +kernel
theorem d_M_goesHour_67 : decode y_M_goesHour.2.1 67 = .ok (.iconst 1, 1) := by decide +kernel
theorem d_M_goesHour_68 : decode y_M_goesHour.2.1 68 = .ok (.iadd, 1) := by decide +kernel
theorem d_M_goesHour_69 : decode y_M_goesHour.2.1 69 = .ok (.putfield 308, 3) := by decide +kernel
theorem d_M_goesHour_72 : decode y_M_goesHour.2.1 72 = .ok (.iload_n 1, 1) := by decide +kernel
theorem d_M_goesHour_73 : decode y_M_goesHour.2.1 73 = .ok (.ireturn, 1) := by decide +kernel
theorem d_M_hours_0 : decode y_M_hours.2.1 0 = .ok (.aload_n 0, 1) := by decide +kernel
theorem d_M_hours_1 : decode y_M_hours.2.1 1 = .ok (.iconst 0, 1) := by decide +kernel
theorem d_M_hours_2 : decode y_M_hours.2.1 2 = .ok (.putfield 3, 3) := by decide +kernel
theorem d_M_hours_5 : decode y_M_hours.2.1 5 = .ok (.iload_n 1, 1) := by decide +kernel
theorem d_M_hours_6 : decode y_M_hours.2.1 6 = .ok (.i2l, 1) := by decide +kernel
theorem d_M_hours_7 : decode y_M_hours.2.1 7 = .ok (.lconst 0, 1) := by decide +kernel
theorem d_M_hours_8 : decode y_M_hours.2.1 8 = .ok (.ldc2_w 311, 3) := by decide +kernel
theorem d_M_hours_11 : decode y_M_hours.2.1 11 = .ok (.invokestatic 17, 3) := by decide +kernel
theorem d_M_hours_14 : decode y_M_hours.2.1 14 = .ok (.ifCond .ne 5, 3) := by decide +kernel
theorem d_M_hours_17 : decode y_M_hours.2.1 17 = .ok (.iconst (-1), 1) := by decide +kernel
theorem d_M_hours_18 : decode y_M_hours.2.1 18 = .ok (.ireturn, 1) := by decide +kernel
theorem d_M_hours_19 : decode y_M_hours.2.1 19 = .ok (.iconst 0, 1) := by decide +kernel
theorem d_M_hours_20 : decode y_M_hours.2.1 20 = .ok (.istore_n 2, 1) := by decide +kernel
theorem d_M_hours_21 : decode y_M_hours.2.1 21 = .ok (.iconst 1, 1) := by decide +kernel
theorem d_M_hours_22 : decode y_M_hours.2.1 22 = .ok (.istore_n 3, 1) := by decide +kernel
theorem d_M_hours_23 : decode y_M_hours.2.1 23 = .ok (.iload_n 2, 1) := by decide +kernel
theorem d_M_hours_24 : decode y_M_hours.2.1 24 = .ok (.iload_n 1, 1) := by decide +kernel
theorem d_M_hours_25 : decode y_M_hours.2.1 25 = .ok (.if_icmp .ge 18, 3) := by decide +kernel
theorem d_M_hours_28 : decode y_M_hours.2.1 28 = .ok (.iload_n 3, 1) := by decide +kernel
theorem d_M_hours_29 : decode y_M_hours.2.1 29 = .ok (.ifCond .eq 14, 3) := by decide +kernel
theorem d_M_hours_32 : decode y_M_hours.2.1 32 = .ok (.aload_n 0, 1) := by decide +kernel
theorem d_M_hours_33 : decode y_M_hours.2.1 33 = .ok (.invokevirtual 313, 3) := by decide +kernel
theorem d_M_hours_36 : decode y_M_hours.2.1 36 = .ok (.istore_n 3, 1) := by decide +kernel
theorem d_M_hours_37 : decode y_M_hours.2.1 37 = .ok (.iinc 2 1, 3) := by decide +kernel
theorem d_M_hours_40 : decode y_M_hours.2.1 40 = .ok (.goto (-17), 3) := by decide +kernel
theorem d_M_hours_43 : decode y_M_hours.2.1 43 = .ok (.iconst 0, 1) := by decide +kernel
theorem d_M_hours_44 : decode y_M_hours.2.1 44 = .ok (.istore 4, 2) := by decide +kernel
theorem d_M_hours_46 : decode y_M_hours.2.1 46 = .ok (.iconst 0, 1) := by decide +kernel
theorem d_M_hours_47 : decode y_M_hours.2.1 47 = .ok (.istore 5, 2) := by decide +kernel
theorem d_M_hours_49 : decode y_M_hours.2.1 49 = .ok (.iload 5, 2) := by decide +kernel
theorem d_M_hours_51 : decode y_M_hours.2.1 51 = .ok (.aload_n 0, 1) := by decide +kernel
theorem d_M_hours_52 : decode y_M_hours.2.1 52 = .ok (.getfield 23, 3) := by decide +kernel
theorem d_M_hours_55 : decode y_M_hours.2.1 55 = .ok (.if_icmp .ge 31, 3) := by decide +kernel
theorem d_M_hours_58 : decode y_M_hours.2.1 58 = .ok (.iload 4, 2) := by decide +kernel
theorem d_M_hours_60 : decode y_M_hours.2.1 60 = .ok (.aload_n 0, 1) := by decide +kernel
theorem d_M_hours_61 : decode y_M_hours.2.1 61 = .ok (.iload 5, 2) := by decide +kernel
theorem d_M_hours_63 : decode y_M_hours.2.1 63 = .ok (.invokevirtual 272, 3) := by decide +kernel
theorem d_M_hours_66 : decode y_M_hours.2.1 66 = .ok (.ifCond .ne 10, 3) := by decide +kernel
theorem d_M_hours_69 : decode y_M_hours.2.1 69 = .ok (.iconst 1, 1) := by decide +kernel
theorem d_M_hours_70 : decode y_M_hours.2.1 70 = .ok (.iload 5, 2) := by decide +kernel
theorem d_M_hours_72 : decode y_M_hours.2.1 72 = .ok (.ishl, 1) := by decide +kernel
theorem d_M_hours_73 : decode y_M_hours.2.1 73 = .ok (.goto 4, 3) := by decide +kernel
theorem d_M_hours_76 : decode y_M_hours.2.1 76 = .ok (.iconst 0, 1) := by decide +kernel
theorem d_M_hours_77 : decode y_M_hours.2.1 77 = .ok (.ior, 1) := by decide +kernel
theorem d_M_hours_78 : decode y_M_hours.2.1 78 = .ok (.istore 4, 2) := by decide +kernel
theorem d_M_hours_80 : decode y_M_hours.2.1 80 = .ok (.iinc 5 1, 3) := by decide +kernel
theorem d_M_hours_83 : decode y_M_hours.2.1 83 = .ok (.goto (-34), 3) := by decide +kernel
theorem d_M_hours_86 : decode y_M_hours.2.1 86 = .ok (.aload_n 0, 1) := by decide +kernel
theorem d_M_hours_87 : decode y_M_hours.2.1 87 = .ok (.iconst 0, 1) := by decide +kernel
theorem d_M_hours_88 : decode y_M_hours.2.1 88 = .ok (.putfield 11, 3) := by decide +kernel
theorem d_M_hours_91 : decode y_M_hours.2.1 91 = .ok (.aload_n 0, 1) := by decide +kernel
theorem d_M_hours_92 : decode y_M_hours.2.1 92 = .ok (.iload_n 3, 1) := by decide +kernel
theorem d_M_hours_93 : decode y_M_hours.2.1 93 = .ok (.ifCond .ne 7, 3) := by decide +kernel
theorem d_M_hours_96 : decode y_M_hours.2.1 96 = .ok (.iconst 1, 1) := by decide +kernel
theorem d_M_hours_97 : decode y_M_hours.2.1 97 = .ok (.goto 4, 3) := by decide +kernel
theorem d_M_hours_100 : decode y_M_hours.2.1 100 = .ok (.iconst 0, 1) := by decide +kernel
theorem d_M_hours_101 : decode y_M_hours.2.1 101 = .ok (.invokestatic 33, 3) := by decide +kernel
theorem d_M_hours_104 : decode y_M_hours.2.1 104 = .ok (.invokevirtual 236, 3) := by decide +kernel
theorem d_M_hours_107 : decode y_M_hours.2.1 107 = .ok (.aload_n 0, 1) := by decide +kernel
theorem d_M_hours_108 : decode y_M_hours.2.1 108 = .ok (.iload 4, 2) := by decide +kernel
theorem d_M_hours_110 : decode y_M_hours.2.1 110 = .ok (.invokevirtual 236, 3) := by decide +kernel
theorem d_M_hours_113 : decode y_M_hours.2.1 113 = .ok (.iload_n 2, 1) := by decide +kernel
theorem d_M_hours_114 : decode y_M_hours.2.1 114 = .ok (.ireturn, 1) := by decide +kernel
theorem d_M_log_0 : decode y_M_log.2.1 0 = .ok (.aload_n 0, 1) := by decide +kernel
theorem d_M_log_1 : decode y_M_log.2.1 1 = .ok (.iconst 0, 1) := by decide +kernel
theorem d_M_log_2 : decode y_M_log.2.1 2 = .ok (.putfield 3, 3) := by decide +kernel
theorem d_M_log_5 : decode y_M_log.2.1 5 = .ok (.iload_n 1, 1) := by decide +kernel
theorem d_M_log_6 : decode y_M_log.2.1 6 = .ok (.ifCond .ge 5, 3) := by decide +kernel
theorem d_M_log_9 : decode y_M_log.2.1 9 = .ok (.iconst (-1), 1) := by decide +kernel
theorem d_M_log_10 : decode y_M_log.2.1 10 = .ok (.ireturn, 1) := by decide +kernel
theorem d_M_log_11 : decode y_M_log.2.1 11 = .ok (.iload_n 1, 1) := by decide +kernel
theorem d_M_log_12 : decode y_M_log.2.1 12 = .ok (.aload_n 0, 1) := by decide +kernel
theorem d_M_log_13 : decode y_M_log.2.1 13 = .ok (.getfield 284, 3) := by decide +kernel
theorem d_M_log_16 : decode y_M_log.2.1 16 = .ok (.if_icmp .ge 19, 3) := by decide +kernel
theorem d_M_log_19 : decode y_M_log.2.1 19 = .ok (.aload_n 0, 1) := by decide +kernel
theorem d_M_log_20 : decode y_M_log.2.1 20 = .ok (.getfield 287, 3) := by decide +kernel
theorem d_M_log_23 : decode y_M_log.2.1 23 = .ok (.aload_n 0, 1) := by decide +kernel
theorem d_M_log_24 : decode y_M_log.2.1 24 = .ok (.getfield 284, 3) := by decide +kernel
theorem d_M_log_27 : decode y_M_log.2.1 27 = .ok (.iconst 1, 1) := by decide +kernel
theorem d_M_log_28 : decode y_M_log.2.1 28 = .ok (.isub, 1) := by decide +kernel
theorem d_M_log_29 : decode y_M_log.2.1 29 = .ok (.iload_n 1, 1) := by decide +kernel
theorem d_M_log_30 : decode y_M_log.2.1 30 = .ok (.isub, 1) := by decide +kernel
theorem d_M_log_31 : decode y_M_log.2.1 31 = .ok (.iaload, 1) := by decide +kernel
theorem d_M_log_32 : decode y_M_log.2.1 32 = .ok (.goto 5, 3) := by decide +kernel
theorem d_M_log_35 : decode y_M_log.2.1 35 = .ok (.bipush (-2), 2) := by decide +kernel
theorem d_M_log_37 : decode y_M_log.2.1 37 = .ok (.ireturn, 1) := by decide +kernel
theorem d_M_order_0 : decode y_M_order.2.1 0 = .ok (.aload_n 0, 1) := by decide +kernel
theorem d_M_order_1 : decode y_M_order.2.1 1 = .ok (.iconst 0, 1) := by decide +kernel
theorem d_M_order_2 : decode y_M_order.2.1 2 = .ok (.putfield 3, 3) := by decide +kernel
theorem d_M_order_5 : decode y_M_order.2.1 5 = .ok (.aload_n 0, 1) := by decide +kernel
theorem d_M_order_6 : decode y_M_order.2.1 6 = .ok (.invokevirtual 299, 3) := by decide +kernel
theorem d_M_order_9 : decode y_M_order.2.1 9 = .ok (.aload_n 0, 1) := by decide +kernel
theorem d_M_order_10 : decode y_M_order.2.1 10 = .ok (.iconst 0, 1) := by decide +kernel
theorem d_M_order_11 : decode y_M_order.2.1 11 = .ok (.putfield 11, 3) := by decide +kernel
theorem d_M_order_14 : decode y_M_order.2.1 14 = .ok (.iconst 0, 1) := by decide +kernel
theorem d_M_order_15 : decode y_M_order.2.1 15 = .ok (.istore_n 1, 1) := by decide +kernel
theorem d_M_order_16 : decode y_M_order.2.1 16 = .ok (.iload_n 1, 1) := by decide +kernel
theorem d_M_order_17 : decode y_M_order.2.1 17 = .ok (.aload_n 0, 1) := by decide +kernel
theorem d_M_order_18 : decode y_M_order.2.1 18 = .ok (.getfield 23, 3) := by decide +kernel
theorem d_M_order_21 : decode y_M_order.2.1 21 = .ok (.if_icmp .ge 19, 3) := by decide +kernel
theorem d_M_order_24 : decode y_M_order.2.1 24 = .ok (.aload_n 0, 1) := by decide +kernel
theorem d_M_order_25 : decode y_M_order.2.1 25 = .ok (.aload_n 0, 1) := by decide +kernel
theorem d_M_order_26 : decode y_M_order.2.1 26 = .ok (.getfield 281, 3) := by decide +kernel
theorem d_M_order_29 : decode y_M_order.2.1 29 = .ok (.iload_n 1, 1) := by decide +kernel
theorem d_M_order_30 : decode y_M_order.2.1 30 = .ok (.iaload, 1) := by decide +kernel
theorem d_M_order_31 : decode y_M_order.2.1 31 = .ok (.invokevirtual 236, 3) := by decide +kernel
theorem d_M_order_34 : decode y_M_order.2.1 34 = .ok (.iinc 1 1, 3) := by decide +kernel
theorem d_M_order_37 : decode y_M_order.2.1 37 = .ok (.goto (-21), 3) := by decide +kernel
theorem d_M_order_40 : decode y_M_order.2.1 40 = .ok (.aload_n 0, 1) := by decide +kernel
theorem d_M_order_41 : decode y_M_order.2.1 41 = .ok (.getfield 23, 3) := by decide +kernel
theorem d_M_order_44 : decode y_M_order.2.1 44 = .ok (.ireturn, 1) := by decide +kernel
theorem d_M_rings_0 : decode y_M_rings.2.1 0 = .ok (.aload_n 0, 1) := by decide +kernel
theorem d_M_rings_1 : decode y_M_rings.2.1 1 = .ok (.getfield 316, 3) := by decide +kernel
theorem d_M_rings_4 : decode y_M_rings.2.1 4 = .ok (.iload_n 1, 1) := by decide +kernel
theorem d_M_rings_5 : decode y_M_rings.2.1 5 = .ok (.iconst 1, 1) := by decide +kernel
theorem d_M_rings_6 : decode y_M_rings.2.1 6 = .ok (.isub, 1) := by decide +kernel
theorem d_M_rings_7 : decode y_M_rings.2.1 7 = .ok (.iaload, 1) := by decide +kernel
theorem d_M_rings_8 : decode y_M_rings.2.1 8 = .ok (.istore 4, 2) := by decide +kernel
theorem d_M_rings_10 : decode y_M_rings.2.1 10 = .ok (.iload_n 1, 1) := by decide +kernel
theorem d_M_rings_11 : decode y_M_rings.2.1 11 = .ok (.iload_n 2, 1) := by decide +kernel
theorem d_M_rings_12 : decode y_M_rings.2.1 12 = .ok (.if_icmp .ne 20, 3) := by decide +kernel
theorem d_M_rings_15 : decode y_M_rings.2.1 15 = .ok (.aload_n 0, 1) := by decide +kernel
theorem d_M_rings_16 : decode y_M_rings.2.1 16 = .ok (.getfield 319, 3) := by decide +kernel
theorem d_M_rings_19 : decode y_M_rings.2.1 19 = .ok (.iload 4, 2) := by decide +kernel
theorem d_M_rings_21 : decode y_M_rings.2.1 21 = .ok (.iaload, 1) := by decide +kernel
theorem d_M_rings_22 : decode y_M_rings.2.1 22 = .ok (.aload_n 0, 1) := by decide +kernel
theorem d_M_rings_23 : decode y_M_rings.2.1 23 = .ok (.getfield 316, 3) := by decide +kernel
theorem d_M_rings_26 : decode y_M_rings.2.1 26 = .ok (.iconst 0, 1) := by decide +kernel
theorem d_M_rings_27 : decode y_M_rings.2.1 27 = .ok (.iaload, 1) := by decide +kernel
theorem d_M_rings_28 : decode y_M_rings.2.1 28 = .ok (.invokestatic 29, 3) := by decide +kernel
theorem d_M_rings_31 : decode y_M_rings.2.1 31 = .ok (.ireturn, 1) := by decide +kernel
theorem d_M_rings_32 : decode y_M_rings.2.1 32 = .ok (.aload_n 0, 1) := by decide +kernel
theorem d_M_rings_33 : decode y_M_rings.2.1 33 = .ok (.getfield 316, 3) := by decide +kernel
theorem d_M_rings_36 : decode y_M_rings.2.1 36 = .ok (.iconst 0, 1) := by decide +kernel
theorem d_M_rings_37 : decode y_M_rings.2.1 37 = .ok (.iaload, 1) := by decide +kernel
theorem d_M_rings_38 : decode y_M_rings.2.1 38 = .ok (.iconst 1, 1) := by decide +kernel
theorem d_M_rings_39 : decode y_M_rings.2.1 39 = .ok (.iadd, 1) := by decide +kernel
theorem d_M_rings_40 : decode y_M_rings.2.1 40 = .ok (.istore 5, 2) := by decide +kernel
theorem d_M_rings_42 : decode y_M_rings.2.1 42 = .ok (.iload 5, 2) := by decide +kernel
theorem d_M_rings_44 : decode y_M_rings.2.1 44 = .ok (.bipush 12, 2) := by decide +kernel
theorem d_M_rings_46 : decode y_M_rings.2.1 46 = .ok (.if_icmp .ge 60, 3) := by decide +kernel
theorem d_M_rings_49 : decode y_M_rings.2.1 49 = .ok (.aload_n 0, 1) := by decide +kernel
theorem d_M_rings_50 : decode y_M_rings.2.1 50 = .ok (.getfield 319, 3) := by decide +kernel
theorem d_M_rings_53 : decode y_M_rings.2.1 53 = .ok (.iload 4, 2) := by decide +kernel
theorem d_M_rings_55 : decode y_M_rings.2.1 55 = .ok (.iaload, 1) := by decide +kernel
theorem d_M_rings_56 : decode y_M_rings.2.1 56 = .ok (.iload 5, 2) := by decide +kernel
theorem d_M_rings_58 : decode y_M_rings.2.1 58 = .ok (.invokestatic 29, 3) := by decide +kernel
theorem d_M_rings_61 : decode y_M_rings.2.1 61 = .ok (.ifCond .eq 39, 3) := by decide +kernel
theorem d_M_rings_64 : decode y_M_rings.2.1 64 = .ok (.iload_n 3, 1) := by decide +kernel
theorem d_M_rings_65 : decode y_M_rings.2.1 65 = .ok (.iload 5, 2) := by decide +kernel
theorem d_M_rings_67 : decode y_M_rings.2.1 67 = .ok (.invokestatic 29, 3) := by decide +kernel
theorem d_M_rings_70 : decode y_M_rings.2.1 70 = .ok (.ifCond .ne 30, 3) := by decide +kernel
theorem d_M_rings_73 : decode y_M_rings.2.1 73 = .ok (.aload_n 0, 1) := by decide +kernel
theorem d_M_rings_74 : decode y_M_rings.2.1 74 = .ok (.getfield 316, 3) := by decide +kernel
theorem d_M_rings_77 : decode y_M_rings.2.1 77 = .ok (.iload_n 1, 1) := by decide +kernel
theorem d_M_rings_78 : decode y_M_rings.2.1 78 = .ok (.iload 5, 2) := by decide +kernel
theorem d_M_rings_80 : decode y_M_rings.2.1 80 = .ok (.iastore, 1) := by decide +kernel
theorem d_M_rings_81 : decode y_M_rings.2.1 81 = .ok (.aload_n 0, 1) := by decide +kernel
theorem d_M_rings_82 : decode y_M_rings.2.1 82 = .ok (.iload_n 1, 1) := by decide +kernel
theorem d_M_rings_83 : decode y_M_rings.2.1 83 = .ok (.iconst 1, 1) := by decide +kernel
theorem d_M_rings_84 : decode y_M_rings.2.1 84 = .ok (.iadd, 1) := by decide +kernel
theorem d_M_rings_85 : decode y_M_rings.2.1 85 = .ok (.iload_n 2, 1) := by decide +kernel
theorem d_M_rings_86 : decode y_M_rings.2.1 86 = .ok (.iload_n 3, 1) := by decide +kernel
theorem d_M_rings_87 : decode y_M_rings.2.1 87 = .ok (.iconst 1, 1) := by decide +kernel
theorem d_M_rings_88 : decode y_M_rings.2.1 88 = .ok (.iload 5, 2) := by decide +kernel
theorem d_M_rings_90 : decode y_M_rings.2.1 90 = .ok (.ishl, 1) := by decide +kernel
theorem d_M_rings_91 : decode y_M_rings.2.1 91 = .ok (.ior, 1) := by decide +kernel
theorem d_M_rings_92 : decode y_M_rings.2.1 92 = .ok (.invokevirtual 322, 3) := by decide +kernel
theorem d_M_rings_95 : decode y_M_rings.2.1 95 = .ok (.ifCond .eq 5, 3) := by decide +kernel
theorem d_M_rings_98 : decode y_M_rings.2.1 98 = .ok (.iconst 1, 1) := by decide +kernel
theorem d_M_rings_99 : decode y_M_rings.2.1 99 = .ok (.ireturn, 1) := by decide +kernel
theorem d_M_rings_100 : decode y_M_rings.2.1 100 = .ok (.iinc 5 1, 3) := by decide +kernel
theorem d_M_rings_103 : decode y_M_rings.2.1 103 = .ok (.goto (-61), 3) := by decide +kernel
theorem d_M_rings_106 : decode y_M_rings.2.1 106 = .ok (.iconst 0, 1) := by decide +kernel
theorem d_M_rings_107 : decode y_M_rings.2.1 107 = .ok (.ireturn, 1) := by decide +kernel
theorem d_M_tellsRing_0 : decode y_M_tellsRing.2.1 0 = .ok (.iload_n 1, 1) := by decide +kernel
theorem d_M_tellsRing_1 : decode y_M_tellsRing.2.1 1 = .ok (.istore_n 3, 1) := by decide +kernel
theorem d_M_tellsRing_2 : decode y_M_tellsRing.2.1 2 = .ok (.iload_n 3, 1) := by decide +kernel
theorem d_M_tellsRing_3 : decode y_M_tellsRing.2.1 3 = .ok (.iload_n 2, 1) := by decide +kernel
theorem d_M_tellsRing_4 : decode y_M_tellsRing.2.1 4 = .ok (.if_icmp .gt 78, 3) := by decide +kernel
theorem d_M_tellsRing_7 : decode y_M_tellsRing.2.1 7 = .ok (.iconst 0, 1) := by decide +kernel
theorem d_M_tellsRing_8 : decode y_M_tellsRing.2.1 8 = .ok (.istore 4, 2) := by decide +kernel
theorem d_M_tellsRing_10 : decode y_M_tellsRing.2.1 10 = .ok (.iload 4, 2) := by decide +kernel
theorem d_M_tellsRing_12 : decode y_M_tellsRing.2.1 12 = .ok (.iload_n 2, 1) := by decide +kernel
theorem d_M_tellsRing_13 : decode y_M_tellsRing.2.1 13 = .ok (.if_icmp .ge 63, 3) := by decide +kernel
theorem d_M_tellsRing_16 : decode y_M_tellsRing.2.1 16 = .ok (.aload_n 0, 1) := by decide +kernel
theorem d_M_tellsRing_17 : decode y_M_tellsRing.2.1 17 = .ok (.getfield 316, 3) := by decide +kernel
theorem d_M_tellsRing_20 : decode y_M_tellsRing.2.1 20 = .ok (.iconst 0, 1) := by decide +kernel
theorem d_M_tellsRing_21 : decode y_M_tellsRing.2.1 21 = .ok (.iload 4, 2) := by decide +kernel
theorem d_M_tellsRing_23 : decode y_M_tellsRing.2.1 23 = .ok (.iastore, 1) := by decide +kernel
theorem d_M_tellsRing_24 : decode y_M_tellsRing.2.1 24 = .ok (.aload_n 0, 1) := by decide +kernel
theorem d_M_tellsRing_25 : decode y_M_tellsRing.2.1 25 = .ok (.iconst 1, 1) := by decide +kernel
theorem d_M_tellsRing_26 : decode y_M_tellsRing.2.1 26 = .ok (.iload_n 3, 1) := by decide +kernel
theorem d_M_tellsRing_27 : decode y_M_tellsRing.2.1 27 = .ok (.iconst 1, 1) := by decide +kernel
theorem d_M_tellsRing_28 : decode y_M_tellsRing.2.1 28 = .ok (.iload 4, 2) := by decide +kernel
theorem d_M_tellsRing_30 : decode y_M_tellsRing.2.1 30 = .ok (.ishl, 1) := by decide +kernel
theorem d_M_tellsRing_31 : decode y_M_tellsRing.2.1 31 = .ok (.invokevirtual 322, 3) := by decide +kernel
theorem d_M_tellsRing_34 : decode y_M_tellsRing.2.1 34 = .ok (.ifCond .eq 36, 3) := by decide +kernel
theorem d_M_tellsRing_37 : decode y_M_tellsRing.2.1 37 = .ok (.aload_n 0, 1) := by decide +kernel
theorem d_M_tellsRing_38 : decode y_M_tellsRing.2.1 38 = .ok (.iconst 0, 1) := by decide +kernel
theorem d_M_tellsRing_39 : decode y_M_tellsRing.2.1 39 = .ok (.putfield 11, 3) := by decide +kernel
theorem d_M_tellsRing_42 : decode y_M_tellsRing.2.1 42 = .ok (.iconst 0, 1) := by decide +kernel
theorem d_M_tellsRing_43 : decode y_M_tellsRing.2.1 43 = .ok (.istore 5, 2) := by decide +kernel
theorem d_M_tellsRing_45 : decode y_M_tellsRing.2.1 45 = .ok (.iload 5, 2) := by decide +kernel
theorem d_M_tellsRing_47 : decode y_M_tellsRing.2.1 47 = .ok (.iload_n 3, 1) := by decide +kernel
theorem d_M_tellsRing_48 : decode y_M_tellsRing.2.1 48 = .ok (.if_icmp .ge 20, 3) := by decide +kernel
theorem d_M_tellsRing_51 : decode y_M_tellsRing.2.1 51 = .ok (.aload_n 0, 1) := by decide +kernel
theorem d_M_tellsRing_52 : decode y_M_tellsRing.2.1 52 = .ok (.aload_n 0, 1) := by decide +kernel
theorem d_M_tellsRing_53 : decode y_M_tellsRing.2.1 53 = .ok (.getfield 316, 3) := by decide +kernel
theorem d_M_tellsRing_56 : decode y_M_tellsRing.2.1 56 = .ok (.iload 5, 2) := by decide +kernel
theorem d_M_tellsRing_58 : decode y_M_tellsRing.2.1 58 = .ok (.iaload, 1) := by decide +kernel
theorem d_M_tellsRing_59 : decode y_M_tellsRing.2.1 59 = .ok (.invokevirtual 236, 3) := by decide +kernel
theorem d_M_tellsRing_62 : decode y_M_tellsRing.2.1 62 = .ok (.iinc 5 1, 3) := by decide +kernel
theorem d_M_tellsRing_65 : decode y_M_tellsRing.2.1 65 = .ok (.goto (-20), 3) := by decide +kernel
theorem d_M_tellsRing_68 : decode y_M_tellsRing.2.1 68 = .ok (.iload_n 3, 1) := by decide +kernel
theorem d_M_tellsRing_69 : decode y_M_tellsRing.2.1 69 = .ok (.ireturn, 1) := by decide +kernel
theorem d_M_tellsRing_70 : decode y_M_tellsRing.2.1 70 = .ok (.iinc 4 1, 3) := by decide +kernel
theorem d_M_tellsRing_73 : decode y_M_tellsRing.2.1 73 = .ok (.goto (-63), 3) := by decide +kernel
theorem d_M_tellsRing_76 : decode y_M_tellsRing.2.1 76 = .ok (.iinc 3 1, 3) := by decide +kernel
theorem d_M_tellsRing_79 : decode y_M_tellsRing.2.1 79 = .ok (.goto (-77), 3) := by decide +kernel
theorem d_M_tellsRing_82 : decode y_M_tellsRing.2.1 82 = .ok (.iconst 0, 1) := by decide +kernel
theorem d_M_tellsRing_83 : decode y_M_tellsRing.2.1 83 = .ok (.ireturn, 1) := by decide +kernel
theorem d_M_ring_0 : decode y_M_ring.2.1 0 = .ok (.aload_n 0, 1) := by decide +kernel
theorem d_M_ring_1 : decode y_M_ring.2.1 1 = .ok (.iconst 0, 1) := by decide +kernel
theorem d_M_ring_2 : decode y_M_ring.2.1 2 = .ok (.putfield 3, 3) := by decide +kernel
theorem d_M_ring_5 : decode y_M_ring.2.1 5 = .ok (.iconst 0, 1) := by decide +kernel
theorem d_M_ring_6 : decode y_M_ring.2.1 6 = .ok (.istore_n 1, 1) := by decide +kernel
theorem d_M_ring_7 : decode y_M_ring.2.1 7 = .ok (.iload_n 1, 1) := by decide +kernel
theorem d_M_ring_8 : decode y_M_ring.2.1 8 = .ok (.aload_n 0, 1) := by decide +kernel
theorem d_M_ring_9 : decode y_M_ring.2.1 9 = .ok (.getfield 23, 3) := by decide +kernel
theorem d_M_ring_12 : decode y_M_ring.2.1 12 = .ok (.if_icmp .ge 83, 3) := by decide +kernel
theorem d_M_ring_15 : decode y_M_ring.2.1 15 = .ok (.aload_n 0, 1) := by decide +kernel
theorem d_M_ring_16 : decode y_M_ring.2.1 16 = .ok (.getfield 319, 3) := by decide +kernel
theorem d_M_ring_19 : decode y_M_ring.2.1 19 = .ok (.iload_n 1, 1) := by decide +kernel
theorem d_M_ring_20 : decode y_M_ring.2.1 20 = .ok (.iconst 0, 1) := by decide +kernel
theorem d_M_ring_21 : decode y_M_ring.2.1 21 = .ok (.iastore, 1) := by decide +kernel
theorem d_M_ring_22 : decode y_M_ring.2.1 22 = .ok (.iconst 0, 1) := by decide +kernel
theorem d_M_ring_23 : decode y_M_ring.2.1 23 = .ok (.istore_n 2, 1) := by decide +kernel
theorem d_M_ring_24 : decode y_M_ring.2.1 24 = .ok (.iload_n 2, 1) := by decide +kernel
theorem d_M_ring_25 : decode y_M_ring.2.1 25 = .ok (.aload_n 0, 1) := by decide +kernel
theorem d_M_ring_26 : decode y_M_ring.2.1 26 = .ok (.getfield 23, 3) := by decide +kernel
theorem d_M_ring_29 : decode y_M_ring.2.1 29 = .ok (.if_icmp .ge 60, 3) := by decide +kernel
theorem d_M_ring_32 : decode y_M_ring.2.1 32 = .ok (.aload_n 0, 1) := by decide +kernel
theorem d_M_ring_33 : decode y_M_ring.2.1 33 = .ok (.getfield 319, 3) := by decide +kernel
theorem d_M_ring_36 : decode y_M_ring.2.1 36 = .ok (.iload_n 1, 1) := by decide +kernel
theorem d_M_ring_37 : decode y_M_ring.2.1 37 = .ok (.dup2, 1) := by decide +kernel
theorem d_M_ring_38 : decode y_M_ring.2.1 38 = .ok (.iaload, 1) := by decide +kernel
theorem d_M_ring_39 : decode y_M_ring.2.1 39 = .ok (.aload_n 0, 1) := by decide +kernel
theorem d_M_ring_40 : decode y_M_ring.2.1 40 = .ok (.getfield 257, 3) := by decide +kernel
theorem d_M_ring_43 : decode y_M_ring.2.1 43 = .ok (.iload_n 2, 1) := by decide +kernel
theorem d_M_ring_44 : decode y_M_ring.2.1 44 = .ok (.iaload, 1) := by decide +kernel
theorem d_M_ring_45 : decode y_M_ring.2.1 45 = .ok (.aload_n 0, 1) := by decide +kernel
theorem d_M_ring_46 : decode y_M_ring.2.1 46 = .ok (.getfield 257, 3) := by decide +kernel
theorem d_M_ring_49 : decode y_M_ring.2.1 49 = .ok (.iload_n 1, 1) := by decide +kernel
theorem d_M_ring_50 : decode y_M_ring.2.1 50 = .ok (.iaload, 1) := by decide +kernel
theorem d_M_ring_51 : decode y_M_ring.2.1 51 = .ok (.if_icmp .eq 29, 3) := by decide +kernel
theorem d_M_ring_54 : decode y_M_ring.2.1 54 = .ok (.aload_n 0, 1) := by decide +kernel
theorem d_M_ring_55 : decode y_M_ring.2.1 55 = .ok (.iload_n 1, 1) := by decide +kernel
theorem d_M_ring_56 : decode y_M_ring.2.1 56 = .ok (.invokevirtual 272, 3) := by decide +kernel
theorem d_M_ring_59 : decode y_M_ring.2.1 59 = .ok (.aload_n 0, 1) := by decide +kernel
theorem d_M_ring_60 : decode y_M_ring.2.1 60 = .ok (.getfield 154, 3) := by decide +kernel
theorem d_M_ring_63 : decode y_M_ring.2.1 63 = .ok (.aload_n 0, 1) := by decide +kernel
theorem d_M_ring_64 : decode y_M_ring.2.1 64 = .ok (.getfield 257, 3) := by decide +kernel
theorem d_M_ring_67 : decode y_M_ring.2.1 67 = .ok (.iload_n 2, 1) := by decide +kernel
theorem d_M_ring_68 : decode y_M_ring.2.1 68 = .ok (.iaload, 1) := by decide +kernel
theorem d_M_ring_69 : decode y_M_ring.2.1 69 = .ok (.iaload, 1) := by decide +kernel
theorem d_M_ring_70 : decode y_M_ring.2.1 70 = .ok (.iand, 1) := by decide +kernel
theorem d_M_ring_71 : decode y_M_ring.2.1 71 = .ok (.ifCond .eq 9, 3) := by decide +kernel
theorem d_M_ring_74 : decode y_M_ring.2.1 74 = .ok (.iconst 1, 1) := by decide +kernel
theorem d_M_ring_75 : decode y_M_ring.2.1 75 = .ok (.iload_n 2, 1) := by decide +kernel
theorem d_M_ring_76 : decode y_M_ring.2.1 76 = .ok (.ishl, 1) := by decide +kernel
theorem d_M_ring_77 : decode y_M_ring.2.1 77 = .ok (.goto 4, 3) := by decide +kernel
theorem d_M_ring_80 : decode y_M_ring.2.1 80 = .ok (.iconst 0, 1) := by decide +kernel
theorem d_M_ring_81 : decode y_M_ring.2.1 81 = .ok (.ior, 1) := by decide +kernel
theorem d_M_ring_82 : decode y_M_ring.2.1 82 = .ok (.iastore, 1) := by decide +kernel
theorem d_M_ring_83 : decode y_M_ring.2.1 83 = .ok (.iinc 2 1, 3) := by decide +kernel
theorem d_M_ring_86 : decode y_M_ring.2.1 86 = .ok (.goto (-62), 3) := by decide +kernel
theorem d_M_ring_89 : decode y_M_ring.2.1 89 = .ok (.iinc 1 1, 3) := by decide +kernel
theorem d_M_ring_92 : decode y_M_ring.2.1 92 = .ok (.goto (-85), 3) := by decide +kernel
theorem d_M_ring_95 : decode y_M_ring.2.1 95 = .ok (.aload_n 0, 1) := by decide +kernel
theorem d_M_ring_96 : decode y_M_ring.2.1 96 = .ok (.iconst 2, 1) := by decide +kernel
theorem d_M_ring_97 : decode y_M_ring.2.1 97 = .ok (.aload_n 0, 1) := by decide +kernel
theorem d_M_ring_98 : decode y_M_ring.2.1 98 = .ok (.getfield 23, 3) := by decide +kernel
theorem d_M_ring_101 : decode y_M_ring.2.1 101 = .ok (.invokevirtual 325, 3) := by decide +kernel
theorem d_M_ring_104 : decode y_M_ring.2.1 104 = .ok (.ireturn, 1) := by decide +kernel
theorem d_M_looks_0 : decode y_M_looks.2.1 0 = .ok (.aload_n 0, 1) := by decide +kernel
theorem d_M_looks_1 : decode y_M_looks.2.1 1 = .ok (.iconst 1, 1) := by decide +kernel
theorem d_M_looks_2 : decode y_M_looks.2.1 2 = .ok (.aload_n 0, 1) := by decide +kernel
theorem d_M_looks_3 : decode y_M_looks.2.1 3 = .ok (.getfield 14, 3) := by decide +kernel
theorem d_M_looks_6 : decode y_M_looks.2.1 6 = .ok (.ishl, 1) := by decide +kernel
theorem d_M_looks_7 : decode y_M_looks.2.1 7 = .ok (.iconst 1, 1) := by decide +kernel
theorem d_M_looks_8 : decode y_M_looks.2.1 8 = .ok (.isub, 1) := by decide +kernel
theorem d_M_looks_9 : decode y_M_looks.2.1 9 = .ok (.iconst 1, 1) := by decide +kernel
theorem d_M_looks_10 : decode y_M_looks.2.1 10 = .ok (.iload_n 1, 1) := by decide +kernel
theorem d_M_looks_11 : decode y_M_looks.2.1 11 = .ok (.ishl, 1) := by decide +kernel
theorem d_M_looks_12 : decode y_M_looks.2.1 12 = .ok (.iconst (-1), 1) := by decide +kernel
theorem d_M_looks_13 : decode y_M_looks.2.1 13 = .ok (.ixor, 1) := by decide +kernel
theorem d_M_looks_14 : decode y_M_looks.2.1 14 = .ok (.iand, 1) := by decide +kernel
theorem d_M_looks_15 : decode y_M_looks.2.1 15 = .ok (.putfield 328, 3) := by decide +kernel
theorem d_M_looks_18 : decode y_M_looks.2.1 18 = .ok (.aload_n 0, 1) := by decide +kernel
theorem d_M_looks_19 : decode y_M_looks.2.1 19 = .ok (.iconst 0, 1) := by decide +kernel
theorem d_M_looks_20 : decode y_M_looks.2.1 20 = .ok (.putfield 331, 3) := by decide +kernel
theorem d_M_looks_23 : decode y_M_looks.2.1 23 = .ok (.aload_n 0, 1) := by decide +kernel
theorem d_M_looks_24 : decode y_M_looks.2.1 24 = .ok (.iconst (-1), 1) := by decide +kernel
theorem d_M_looks_25 : decode y_M_looks.2.1 25 = .ok (.putfield 334, 3) := by decide +kernel
theorem d_M_looks_28 : decode y_M_looks.2.1 28 = .ok (.aload_n 0, 1) := by decide +kernel
theorem d_M_looks_29 : decode y_M_looks.2.1 29 = .ok (.iconst 0, 1) := by decide +kernel
theorem d_M_looks_30 : decode y_M_looks.2.1 30 = .ok (.putfield 337, 3) := by decide +kernel
theorem d_M_looks_33 : decode y_M_looks.2.1 33 = .ok (.iconst 0, 1) := by decide +kernel
theorem d_M_looks_34 : decode y_M_looks.2.1 34 = .ok (.istore_n 3, 1) := by decide +kernel
theorem d_M_looks_35 : decode y_M_looks.2.1 35 = .ok (.iload_n 3, 1) := by decide +kernel
theorem d_M_looks_36 : decode y_M_looks.2.1 36 = .ok (.iconst 1, 1) := by decide +kernel
theorem d_M_looks_37 : decode y_M_looks.2.1 37 = .ok (.aload_n 0, 1) := by decide +kernel
theorem d_M_looks_38 : decode y_M_looks.2.1 38 = .ok (.getfield 14, 3) := by decide +kernel
theorem d_M_looks_41 : decode y_M_looks.2.1 41 = .ok (.ishl, 1) := by decide +kernel
theorem d_M_looks_42 : decode y_M_looks.2.1 42 = .ok (.if_icmp .ge 136, 3) := by decide +kernel
theorem d_M_looks_45 : decode y_M_looks.2.1 45 = .ok (.iload_n 3, 1) := by decide +kernel
theorem d_M_looks_46 : decode y_M_looks.2.1 46 = .ok (.iload_n 1, 1) := by decide +kernel
theorem d_M_looks_47 : decode y_M_looks.2.1 47 = .ok (.invokestatic 29, 3) := by decide +kernel
theorem d_M_looks_50 : decode y_M_looks.2.1 50 = .ok (.ifCond .ne 122, 3) := by decide +kernel
theorem d_M_looks_53 : decode y_M_looks.2.1 53 = .ok (.iload_n 3, 1) := by decide +kernel
theorem d_M_looks_54 : decode y_M_looks.2.1 54 = .ok (.invokestatic 118, 3) := by decide +kernel
theorem d_M_looks_57 : decode y_M_looks.2.1 57 = .ok (.aload_n 0, 1) := by decide +kernel
theorem d_M_looks_58 : decode y_M_looks.2.1 58 = .ok (.getfield 199, 3) := by decide +kernel
theorem d_M_looks_61 : decode y_M_looks.2.1 61 = .ok (.iload_n 2, 1) := by decide +kernel
theorem d_M_looks_62 : decode y_M_looks.2.1 62 = .ok (.iaload, 1) := by decide +kernel
theorem d_M_looks_63 : decode y_M_looks.2.1 63 = .ok (.if_icmp .ge 109, 3) := by decide +kernel
theorem d_M_looks_66 : decode y_M_looks.2.1 66 = .ok (.aload_n 0, 1) := by decide +kernel
theorem d_M_looks_67 : decode y_M_looks.2.1 67 = .ok (.iload_n 1, 1) := by decide +kernel
theorem d_M_looks_68 : decode y_M_looks.2.1 68 = .ok (.iload_n 2, 1) := by decide +kernel
theorem d_M_looks_69 : decode y_M_looks.2.1 69 = .ok (.iload_n 3, 1) := by decide +kernel
theorem d_M_looks_70 : decode y_M_looks.2.1 70 = .ok (.invokevirtual 150, 3) := by decide +kernel
theorem d_M_looks_73 : decode y_M_looks.2.1 73 = .ok (.ifCond .ne 6, 3) := by decide +kernel
theorem d_M_looks_76 : decode y_M_looks.2.1 76 = .ok (.goto 96, 3) := by decide +kernel
theorem d_M_looks_79 : decode y_M_looks.2.1 79 = .ok (.aload_n 0, 1) := by decide +kernel
theorem d_M_looks_80 : decode y_M_looks.2.1 80 = .ok (.dup, 1) := by decide +kernel
theorem d_M_looks_81 : decode y_M_looks.2.1 81 = .ok (.getfield 328, 3) := by decide +kernel
theorem d_M_looks_84 : decode y_M_looks.2.1 84 = .ok (.iload_n 3, 1) := by decide +kernel
theorem d_M_looks_85 : decode y_M_looks.2.1 85 = .ok (.iand, 1) := by decide +kernel
theorem d_M_looks_86 : decode y_M_looks.2.1 86 = .ok (.putfield 328, 3) := by decide +kernel
theorem d_M_looks_89 : decode y_M_looks.2.1 89 = .ok (.aload_n 0, 1) := by decide +kernel
theorem d_M_looks_90 : decode y_M_looks.2.1 90 = .ok (.dup, 1) := by decide +kernel
theorem d_M_looks_91 : decode y_M_looks.2.1 91 = .ok (.getfield 331, 3) := by decide +kernel
theorem d_M_looks_94 : decode y_M_looks.2.1 94 = .ok (.iload_n 3, 1) := by decide +kernel
theorem d_M_looks_95 : decode y_M_looks.2.1 95 = .ok (.ior, 1) := by decide +kernel
theorem d_M_looks_96 : decode y_M_looks.2.1 96 = .ok (.putfield 331, 3) := by decide +kernel
theorem d_M_looks_99 : decode y_M_looks.2.1 99 = .ok (.aload_n 0, 1) := by decide +kernel
theorem d_M_looks_100 : decode y_M_looks.2.1 100 = .ok (.getfield 334, 3) := by decide +kernel
theorem d_M_looks_103 : decode y_M_looks.2.1 103 = .ok (.ifCond .ge 7, 3) := by decide +kernel
theorem d_M_looks_106 : decode y_M_looks.2.1 106 = .ok (.iconst (-1), 1) := by decide +kernel
theorem d_M_looks_107 : decode y_M_looks.2.1 107 = .ok (.goto 15, 3) := by decide +kernel
theorem d_M_looks_110 : decode y_M_looks.2.1 110 = .ok (.iload_n 3, 1) := by decide +kernel
theorem d_M_looks_111 : decode y_M_looks.2.1 111 = .ok (.invokestatic 118, 3) := by decide +kernel
theorem d_M_looks_114 : decode y_M_looks.2.1 114 = .ok (.aload_n 0, 1) := by decide +kernel
theorem d_M_looks_115 : decode y_M_looks.2.1 115 = .ok (.getfield 334, 3) := by decide +kernel
theorem d_M_looks_118 : decode y_M_looks.2.1 118 = .ok (.invokestatic 118, 3) := by decide +kernel
theorem d_M_looks_121 : decode y_M_looks.2.1 121 = .ok (.isub, 1) := by decide +kernel
theorem d_M_looks_122 : decode y_M_looks.2.1 122 = .ok (.istore 4, 2) := by decide +kernel
theorem d_M_looks_124 : decode y_M_looks.2.1 124 = .ok (.aload_n 0, 1) := by decide +kernel
theorem d_M_looks_125 : decode y_M_looks.2.1 125 = .ok (.iload 4, 2) := by decide +kernel
theorem d_M_looks_127 : decode y_M_looks.2.1 127 = .ok (.ifCond .ge 7, 3) := by decide +kernel
theorem d_M_looks_130 : decode y_M_looks.2.1 130 = .ok (.iconst 1, 1) := by decide +kernel
theorem d_M_looks_131 : decode y_M_looks.2.1 131 = .ok (.goto 21, 3) := by decide +kernel
theorem d_M_looks_134 : decode y_M_looks.2.1 134 = .ok (.aload_n 0, 1) := by decide +kernel
theorem d_M_looks_135 : decode y_M_looks.2.1 135 = .ok (.getfield 337, 3) := by decide +kernel
theorem d_M_looks_138 : decode y_M_looks.2.1 138 = .ok (.iload 4, 2) := by decide +kernel
theorem d_M_looks_140 : decode y_M_looks.2.1 140 = .ok (.ifCond .ne 7, 3) := by decide +kernel
theorem d_M_looks_143 : decode y_M_looks.2.1 143 = .ok (.iconst 1, 1) := by decide +kernel
theorem d_M_looks_144 : decode y_M_looks.2.1 144 = .ok (.goto 4, 3) := by decide +kernel
theorem d_M_looks_147 : decode y_M_looks.2.1 147 = .ok (.iconst 0, 1) := by decide +kernel
theorem d_M_looks_148 : decode y_M_looks.2.1 148 = .ok (.invokestatic 33, 3) := by decide +kernel
theorem d_M_looks_151 : decode y_M_looks.2.1 151 = .ok (.iadd, 1) := by decide +kernel
theorem d_M_looks_152 : decode y_M_looks.2.1 152 = .ok (.putfield 337, 3) := by decide +kernel
theorem d_M_looks_155 : decode y_M_looks.2.1 155 = .ok (.aload_n 0, 1) := by decide +kernel
theorem d_M_looks_156 : decode y_M_looks.2.1 156 = .ok (.iload 4, 2) := by decide +kernel
theorem d_M_looks_158 : decode y_M_looks.2.1 158 = .ok (.ifCond .ge 7, 3) := by decide +kernel
theorem d_M_looks_161 : decode y_M_looks.2.1 161 = .ok (.iload_n 3, 1) := by decide +kernel
theorem d_M_looks_162 : decode y_M_looks.2.1 162 = .ok (.goto 7, 3) := by decide +kernel
theorem d_M_looks_165 : decode y_M_looks.2.1 165 = .ok (.aload_n 0, 1) := by decide +kernel
theorem d_M_looks_166 : decode y_M_looks.2.1 166 = .ok (.getfield 334, 3) := by decide +kernel
theorem d_M_looks_169 : decode y_M_looks.2.1 169 = .ok (.putfield 334, 3) := by decide +kernel
theorem d_M_looks_172 : decode y_M_looks.2.1 172 = .ok (.iinc 3 1, 3) := by decide +kernel
theorem d_M_looks_175 : decode y_M_looks.2.1 175 = .ok (.goto (-140), 3) := by decide +kernel
theorem d_M_looks_178 : decode y_M_looks.2.1 178 = .ok (.aload_n 0, 1) := by decide +kernel
theorem d_M_looks_179 : decode y_M_looks.2.1 179 = .ok (.getfield 334, 3) := by decide +kernel
theorem d_M_looks_182 : decode y_M_looks.2.1 182 = .ok (.ifCond .lt 7, 3) := by decide +kernel
theorem d_M_looks_185 : decode y_M_looks.2.1 185 = .ok (.iconst 1, 1) := by decide +kernel
theorem d_M_looks_186 : decode y_M_looks.2.1 186 = .ok (.goto 4, 3) := by decide +kernel
theorem d_M_looks_189 : decode y_M_looks.2.1 189 = .ok (.iconst 0, 1) := by decide +kernel
theorem d_M_looks_190 : decode y_M_looks.2.1 190 = .ok (.ireturn, 1) := by decide +kernel
theorem d_M_needs_0 : decode y_M_needs.2.1 0 = .ok (.aload_n 0, 1) := by decide +kernel
theorem d_M_needs_1 : decode y_M_needs.2.1 1 = .ok (.iconst 0, 1) := by decide +kernel
theorem d_M_needs_2 : decode y_M_needs.2.1 2 = .ok (.putfield 3, 3) := by decide +kernel
theorem d_M_needs_5 : decode y_M_needs.2.1 5 = .ok (.aload_n 0, 1) := by decide +kernel
theorem d_M_needs_6 : decode y_M_needs.2.1 6 = .ok (.iload_n 1, 1) := by decide +kernel
theorem d_M_needs_7 : decode y_M_needs.2.1 7 = .ok (.invokevirtual 189, 3) := by decide +kernel
theorem d_M_needs_10 : decode y_M_needs.2.1 10 = .ok (.ifCond .eq 10, 3) := by decide +kernel
theorem d_M_needs_13 : decode y_M_needs.2.1 13 = .ok (.iload_n 2, 1) := by decide +kernel
theorem d_M_needs_14 : decode y_M_needs.2.1 14 = .ok (.invokestatic 194, 3) := by decide +kernel
theorem d_M_needs_17 : decode y_M_needs.2.1 17 = .ok (.ifCond .ne 5, 3) := by decide +kernel
theorem d_M_needs_20 : decode y_M_needs.2.1 20 = .ok (.iconst (-1), 1) := by decide +kernel
theorem d_M_needs_21 : decode y_M_needs.2.1 21 = .ok (.ireturn, 1) := by decide +kernel
theorem d_M_needs_22 : decode y_M_needs.2.1 22 = .ok (.aload_n 0, 1) := by decide +kernel
theorem d_M_needs_23 : decode y_M_needs.2.1 23 = .ok (.iload_n 1, 1) := by decide +kernel
theorem d_M_needs_24 : decode y_M_needs.2.1 24 = .ok (.iload_n 2, 1) := by decide +kernel
theorem d_M_needs_25 : decode y_M_needs.2.1 25 = .ok (.invokevirtual 340, 3) := by decide +kernel
theorem d_M_needs_28 : decode y_M_needs.2.1 28 = .ok (.pop, 1) := by decide +kernel
theorem d_M_needs_29 : decode y_M_needs.2.1 29 = .ok (.aload_n 0, 1) := by decide +kernel
theorem d_M_needs_30 : decode y_M_needs.2.1 30 = .ok (.getfield 328, 3) := by decide +kernel
theorem d_M_needs_33 : decode y_M_needs.2.1 33 = .ok (.ireturn, 1) := by decide +kernel
theorem d_M_bars_0 : decode y_M_bars.2.1 0 = .ok (.aload_n 0, 1) := by decide +kernel
theorem d_M_bars_1 : decode y_M_bars.2.1 1 = .ok (.iconst 0, 1) := by decide +kernel
theorem d_M_bars_2 : decode y_M_bars.2.1 2 = .ok (.putfield 3, 3) := by decide +kernel
theorem d_M_bars_5 : decode y_M_bars.2.1 5 = .ok (.aload_n 0, 1) := by decide +kernel
theorem d_M_bars_6 : decode y_M_bars.2.1 6 = .ok (.iload_n 1, 1) := by decide +kernel
theorem d_M_bars_7 : decode y_M_bars.2.1 7 = .ok (.invokevirtual 189, 3) := by decide +kernel
theorem d_M_bars_10 : decode y_M_bars.2.1 10 = .ok (.ifCond .eq 10, 3) := by decide +kernel
theorem d_M_bars_13 : decode y_M_bars.2.1 13 = .ok (.iload_n 2, 1) := by decide +kernel
theorem d_M_bars_14 : decode y_M_bars.2.1 14 = .ok (.invokestatic 194, 3) := by decide +kernel
theorem d_M_bars_17 : decode y_M_bars.2.1 17 = .ok (.ifCond .ne 5, 3) := by decide +kernel
theorem d_M_bars_20 : decode y_M_bars.2.1 20 = .ok (.iconst (-1), 1) := by decide +kernel
theorem d_M_bars_21 : decode y_M_bars.2.1 21 = .ok (.ireturn, 1) := by decide +kernel
theorem d_M_bars_22 : decode y_M_bars.2.1 22 = .ok (.aload_n 0, 1) := by decide +kernel
theorem d_M_bars_23 : decode y_M_bars.2.1 23 = .ok (.iload_n 1, 1) := by decide +kernel
theorem d_M_bars_24 : decode y_M_bars.2.1 24 = .ok (.iload_n 2, 1) := by decide +kernel
theorem d_M_bars_25 : decode y_M_bars.2.1 25 = .ok (.invokevirtual 340, 3) := by decide +kernel
theorem d_M_bars_28 : decode y_M_bars.2.1 28 = .ok (.pop, 1) := by decide +kernel
theorem d_M_bars_29 : decode y_M_bars.2.1 29 = .ok (.iconst 1, 1) := by decide +kernel
theorem d_M_bars_30 : decode y_M_bars.2.1 30 = .ok (.aload_n 0, 1) := by decide +kernel
theorem d_M_bars_31 : decode y_M_bars.2.1 31 = .ok (.getfield 14, 3) := by decide +kernel
theorem d_M_bars_34 : decode y_M_bars.2.1 34 = .ok (.ishl, 1) := by decide +kernel
theorem d_M_bars_35 : decode y_M_bars.2.1 35 = .ok (.iconst 1, 1) := by decide +kernel
theorem d_M_bars_36 : decode y_M_bars.2.1 36 = .ok (.isub, 1) := by decide +kernel
theorem d_M_bars_37 : decode y_M_bars.2.1 37 = .ok (.iconst 1, 1) := by decide +kernel
theorem d_M_bars_38 : decode y_M_bars.2.1 38 = .ok (.iload_n 1, 1) := by decide +kernel
theorem d_M_bars_39 : decode y_M_bars.2.1 39 = .ok (.ishl, 1) := by decide +kernel
theorem d_M_bars_40 : decode y_M_bars.2.1 40 = .ok (.iconst (-1), 1) := by decide +kernel
theorem d_M_bars_41 : decode y_M_bars.2.1 41 = .ok (.ixor, 1) := by decide +kernel
theorem d_M_bars_42 : decode y_M_bars.2.1 42 = .ok (.iand, 1) := by decide +kernel
theorem d_M_bars_43 : decode y_M_bars.2.1 43 = .ok (.aload_n 0, 1) := by decide +kernel
theorem d_M_bars_44 : decode y_M_bars.2.1 44 = .ok (.getfield 331, 3) := by decide +kernel
theorem d_M_bars_47 : decode y_M_bars.2.1 47 = .ok (.iconst (-1), 1) := by decide +kernel
theorem d_M_bars_48 : decode y_M_bars.2.1 48 = .ok (.ixor, 1) := by decide +kernel
theorem d_M_bars_49 : decode y_M_bars.2.1 49 = .ok (.iand, 1) := by decide +kernel
theorem d_M_bars_50 : decode y_M_bars.2.1 50 = .ok (.ireturn, 1) := by decide +kernel
theorem d_M_least_0 : decode y_M_least.2.1 0 = .ok (.aload_n 0, 1) := by decide +kernel
theorem d_M_least_1 : decode y_M_least.2.1 1 = .ok (.iconst 0, 1) := by decide +kernel
theorem d_M_least_2 : decode y_M_least.2.1 2 = .ok (.putfield 3, 3) := by decide +kernel
theorem d_M_least_5 : decode y_M_least.2.1 5 = .ok (.aload_n 0, 1) := by decide +kernel
theorem d_M_least_6 : decode y_M_least.2.1 6 = .ok (.iload_n 1, 1) := by decide +kernel
theorem d_M_least_7 : decode y_M_least.2.1 7 = .ok (.invokevirtual 189, 3) := by decide +kernel
theorem d_M_least_10 : decode y_M_least.2.1 10 = .ok (.ifCond .eq 10, 3) := by decide +kernel
theorem d_M_least_13 : decode y_M_least.2.1 13 = .ok (.iload_n 2, 1) := by decide +kernel
theorem d_M_least_14 : decode y_M_least.2.1 14 = .ok (.invokestatic 194, 3) := by decide +kernel
theorem d_M_least_17 : decode y_M_least.2.1 17 = .ok (.ifCond .ne 5, 3) := by decide +kernel
theorem d_M_least_20 : decode y_M_least.2.1 20 = .ok (.iconst (-1), 1) := by decide +kernel
theorem d_M_least_21 : decode y_M_least.2.1 21 = .ok (.ireturn, 1) := by decide +kernel
theorem d_M_least_22 : decode y_M_least.2.1 22 = .ok (.aload_n 0, 1) := by decide +kernel
theorem d_M_least_23 : decode y_M_least.2.1 23 = .ok (.iload_n 1, 1) := by decide +kernel
theorem d_M_least_24 : decode y_M_least.2.1 24 = .ok (.iload_n 2, 1) := by decide +kernel
theorem d_M_least_25 : decode y_M_least.2.1 25 = .ok (.invokevirtual 340, 3) := by decide +kernel
theorem d_M_least_28 : decode y_M_least.2.1 28 = .ok (.ifCond .ne 6, 3) := by decide +kernel
theorem d_M_least_31 : decode y_M_least.2.1 31 = .ok (.bipush (-2), 2) := by decide +kernel
theorem d_M_least_33 : decode y_M_least.2.1 33 = .ok (.ireturn, 1) := by decide +kernel
theorem d_M_least_34 : decode y_M_least.2.1 34 = .ok (.aload_n 0, 1) := by decide +kernel
theorem d_M_least_35 : decode y_M_least.2.1 35 = .ok (.iconst 0, 1) := by decide +kernel
theorem d_M_least_36 : decode y_M_least.2.1 36 = .ok (.putfield 11, 3) := by decide +kernel
theorem d_M_least_39 : decode y_M_least.2.1 39 = .ok (.aload_n 0, 1) := by decide +kernel
theorem d_M_least_40 : decode y_M_least.2.1 40 = .ok (.aload_n 0, 1) := by decide +kernel
theorem d_M_least_41 : decode y_M_least.2.1 41 = .ok (.getfield 334, 3) := by decide +kernel
theorem d_M_least_44 : decode y_M_least.2.1 44 = .ok (.invokevirtual 236, 3) := by decide +kernel
theorem d_M_least_47 : decode y_M_least.2.1 47 = .ok (.aload_n 0, 1) := by decide +kernel
theorem d_M_least_48 : decode y_M_least.2.1 48 = .ok (.aload_n 0, 1) := by decide +kernel
theorem d_M_least_49 : decode y_M_least.2.1 49 = .ok (.getfield 337, 3) := by decide +kernel
theorem d_M_least_52 : decode y_M_least.2.1 52 = .ok (.invokevirtual 236, 3) := by decide +kernel
theorem d_M_least_55 : decode y_M_least.2.1 55 = .ok (.aload_n 0, 1) := by decide +kernel
theorem d_M_least_56 : decode y_M_least.2.1 56 = .ok (.getfield 334, 3) := by decide +kernel
theorem d_M_least_59 : decode y_M_least.2.1 59 = .ok (.invokestatic 118, 3) := by decide +kernel
theorem d_M_least_62 : decode y_M_least.2.1 62 = .ok (.ireturn, 1) := by decide +kernel
theorem d_M_knot_0 : decode y_M_knot.2.1 0 = .ok (.aload_n 0, 1) := by decide +kernel
theorem d_M_knot_1 : decode y_M_knot.2.1 1 = .ok (.iconst 0, 1) := by decide +kernel
theorem d_M_knot_2 : decode y_M_knot.2.1 2 = .ok (.putfield 3, 3) := by decide +kernel
theorem d_M_knot_5 : decode y_M_knot.2.1 5 = .ok (.iload_n 1, 1) := by decide +kernel
theorem d_M_knot_6 : decode y_M_knot.2.1 6 = .ok (.invokestatic 194, 3) := by decide +kernel
theorem d_M_knot_9 : decode y_M_knot.2.1 9 = .ok (.ifCond .ne 5, 3) := by decide +kernel
theorem d_M_knot_12 : decode y_M_knot.2.1 12 = .ok (.iconst (-1), 1) := by decide +kernel
theorem d_M_knot_13 : decode y_M_knot.2.1 13 = .ok (.ireturn, 1) := by decide +kernel
theorem d_M_knot_14 : decode y_M_knot.2.1 14 = .ok (.iconst 0, 1) := by decide +kernel
theorem d_M_knot_15 : decode y_M_knot.2.1 15 = .ok (.istore_n 2, 1) := by decide +kernel
theorem d_M_knot_16 : decode y_M_knot.2.1 16 = .ok (.iload_n 2, 1) := by decide +kernel
theorem d_M_knot_17 : decode y_M_knot.2.1 17 = .ok (.aload_n 0, 1) := by decide +kernel
theorem d_M_knot_18 : decode y_M_knot.2.1 18 = .ok (.getfield 14, 3) := by decide +kernel
theorem d_M_knot_21 : decode y_M_knot.2.1 21 = .ok (.if_icmp .ge 36, 3) := by decide +kernel
theorem d_M_knot_24 : decode y_M_knot.2.1 24 = .ok (.aload_n 0, 1) := by decide +kernel
theorem d_M_knot_25 : decode y_M_knot.2.1 25 = .ok (.iload_n 2, 1) := by decide +kernel
theorem d_M_knot_26 : decode y_M_knot.2.1 26 = .ok (.iload_n 1, 1) := by decide +kernel
theorem d_M_knot_27 : decode y_M_knot.2.1 27 = .ok (.invokevirtual 340, 3) := by decide +kernel
theorem d_M_knot_30 : decode y_M_knot.2.1 30 = .ok (.istore_n 3, 1) := by decide +kernel
theorem d_M_knot_31 : decode y_M_knot.2.1 31 = .ok (.aload_n 0, 1) := by decide +kernel
theorem d_M_knot_32 : decode y_M_knot.2.1 32 = .ok (.getfield 319, 3) := by decide +kernel
theorem d_M_knot_35 : decode y_M_knot.2.1 35 = .ok (.iload_n 2, 1) := by decide +kernel
theorem d_M_knot_36 : decode y_M_knot.2.1 36 = .ok (.iload_n 3, 1) := by decide +kernel
theorem d_M_knot_37 : decode y_M_knot.2.1 37 = .ok (.ifCond .eq 10, 3) := by decide +kernel
theorem d_M_knot_40 : decode y_M_knot.2.1 40 = .ok (.aload_n 0, 1) := by decide +kernel
theorem d_M_knot_41 : decode y_M_knot.2.1 41 = .ok (.getfield 328, 3) := by decide +kernel
theorem d_M_knot_44 : decode y_M_knot.2.1 44 = .ok (.goto 6, 3) := by decide +kernel
theorem d_M_knot_47 : decode y_M_knot.2.1 47 = .ok (.iconst 1, 1) := by decide +kernel
theorem d_M_knot_48 : decode y_M_knot.2.1 48 = .ok (.iload_n 2, 1) := by decide +kernel
theorem d_M_knot_49 : decode y_M_knot.2.1 49 = .ok (.ishl, 1) := by decide +kernel
theorem d_M_knot_50 : decode y_M_knot.2.1 50 = .ok (.iastore, 1) := by decide +kernel
theorem d_M_knot_51 : decode y_M_knot.2.1 51 = .ok (.iinc 2 1, 3) := by decide +kernel
theorem d_M_knot_54 : decode y_M_knot.2.1 54 = .ok (.goto (-38), 3) := by decide +kernel
theorem d_M_knot_57 : decode y_M_knot.2.1 57 = .ok (.aload_n 0, 1) := by decide +kernel
theorem d_M_knot_58 : decode y_M_knot.2.1 58 = .ok (.iconst 1, 1) := by decide +kernel
theorem d_M_knot_59 : decode y_M_knot.2.1 59 = .ok (.aload_n 0, 1) := by decide +kernel
theorem d_M_knot_60 : decode y_M_knot.2.1 60 = .ok (.getfield 14, 3) := by decide +kernel
theorem d_M_knot_63 : decode y_M_knot.2.1 63 = .ok (.invokevirtual 325, 3) := by decide +kernel
theorem d_M_knot_66 : decode y_M_knot.2.1 66 = .ok (.ireturn, 1) := by decide +kernel
theorem d_M_nextOf_0 : decode y_M_nextOf.2.1 0 = .ok (.aload_n 0, 1) := by decide +kernel
theorem d_M_nextOf_1 : decode y_M_nextOf.2.1 1 = .ok (.getfield 343, 3) := by decide +kernel
theorem d_M_nextOf_4 : decode y_M_nextOf.2.1 4 = .ok (.bipush 24, 2) := by decide +kernel
theorem d_M_nextOf_6 : decode y_M_nextOf.2.1 6 = .ok (.iload_n 1, 1) := by decide +kernel
theorem d_M_nextOf_7 : decode y_M_nextOf.2.1 7 = .ok (.imul, 1) := by decide +kernel
theorem d_M_nextOf_8 : decode y_M_nextOf.2.1 8 = .ok (.iload_n 2, 1) := by decide +kernel
theorem d_M_nextOf_9 : decode y_M_nextOf.2.1 9 = .ok (.iadd, 1) := by decide +kernel
theorem d_M_nextOf_10 : decode y_M_nextOf.2.1 10 = .ok (.iaload, 1) := by decide +kernel
theorem d_M_nextOf_11 : decode y_M_nextOf.2.1 11 = .ok (.ireturn, 1) := by decide +kernel
theorem d_M_laysOut_0 : decode y_M_laysOut.2.1 0 = .ok (.iconst 0, 1) := by decide +kernel
theorem d_M_laysOut_1 : decode y_M_laysOut.2.1 1 = .ok (.istore_n 2, 1) := by decide +kernel
theorem d_M_laysOut_2 : decode y_M_laysOut.2.1 2 = .ok (.iload_n 2, 1) := by decide +kernel
theorem d_M_laysOut_3 : decode y_M_laysOut.2.1 3 = .ok (.iconst 1, 1) := by decide +kernel
theorem d_M_laysOut_4 : decode y_M_laysOut.2.1 4 = .ok (.aload_n 0, 1) := by decide +kernel
theorem d_M_laysOut_5 : decode y_M_laysOut.2.1 5 = .ok (.getfield 14, 3) := by decide +kernel
theorem d_M_laysOut_8 : decode y_M_laysOut.2.1 8 = .ok (.ishl, 1) := by decide +kernel
theorem d_M_laysOut_9 : decode y_M_laysOut.2.1 9 = .ok (.if_icmp .ge 146, 3) := by decide +kernel
theorem d_M_laysOut_12 : decode y_M_laysOut.2.1 12 = .ok (.iconst 0, 1) := by decide +kernel
theorem d_M_laysOut_13 : decode y_M_laysOut.2.1 13 = .ok (.istore_n 3, 1) := by decide +kernel
theorem d_M_laysOut_14 : decode y_M_laysOut.2.1 14 = .ok (.iload_n 3, 1) := by decide +kernel
theorem d_M_laysOut_15 : decode y_M_laysOut.2.1 15 = .ok (.aload_n 0, 1) := by decide +kernel
theorem d_M_laysOut_16 : decode y_M_laysOut.2.1 16 = .ok (.getfield 14, 3) := by decide +kernel
theorem d_M_laysOut_19 : decode y_M_laysOut.2.1 19 = .ok (.if_icmp .ge 130, 3) := by decide +kernel
theorem d_M_laysOut_22 : decode y_M_laysOut.2.1 22 = .ok (.iload_n 2, 1) := by decide +kernel
theorem d_M_laysOut_23 : decode y_M_laysOut.2.1 23 = .ok (.iload_n 3, 1) := by decide +kernel
theorem d_M_laysOut_24 : decode y_M_laysOut.2.1 24 = .ok (.invokestatic 29, 3) := by decide +kernel
theorem d_M_laysOut_27 : decode y_M_laysOut.2.1 27 = .ok (.ifCond .ne 45, 3) := by decide +kernel
theorem d_M_laysOut_30 : decode y_M_laysOut.2.1 30 = .ok (.aload_n 0, 1) := by decide +kernel
theorem d_M_laysOut_31 : decode y_M_laysOut.2.1 31 = .ok (.getfield 176, 3) := by decide +kernel
theorem d_M_laysOut_34 : decode y_M_laysOut.2.1 34 = .ok (.iload_n 3, 1) := by decide +kernel
theorem d_M_laysOut_35 : decode y_M_laysOut.2.1 35 = .ok (.iaload, 1) := by decide +kernel
theorem d_M_laysOut_36 : decode y_M_laysOut.2.1 36 = .ok (.aload_n 0, 1) := by decide +kernel
theorem d_M_laysOut_37 : decode y_M_laysOut.2.1 37 = .ok (.getfield 173, 3) := by decide +kernel
theorem d_M_laysOut_40 : decode y_M_laysOut.2.1 40 = .ok (.iload_n 3, 1) := by decide +kernel
theorem d_M_laysOut_41 : decode y_M_laysOut.2.1 41 = .ok (.iaload, 1) := by decide +kernel
theorem d_M_laysOut_42 : decode y_M_laysOut.2.1 42 = .ok (.if_icmp .ge 30, 3) := by decide +kernel
theorem d_M_laysOut_45 : decode y_M_laysOut.2.1 45 = .ok (.iload_n 2, 1) := by decide +kernel
theorem d_M_laysOut_46 : decode y_M_laysOut.2.1 46 = .ok (.invokestatic 118, 3) := by decide +kernel
theorem d_M_laysOut_49 : decode y_M_laysOut.2.1 49 = .ok (.aload_n 0, 1) := by decide +kernel
theorem d_M_laysOut_50 : decode y_M_laysOut.2.1 50 = .ok (.getfield 199, 3) := by decide +kernel
theorem d_M_laysOut_53 : decode y_M_laysOut.2.1 53 = .ok (.iload_n 1, 1) := by decide +kernel
theorem d_M_laysOut_54 : decode y_M_laysOut.2.1 54 = .ok (.iaload, 1) := by decide +kernel
theorem d_M_laysOut_55 : decode y_M_laysOut.2.1 55 = .ok (.if_icmp .ge 17, 3) := by decide +kernel
theorem d_M_laysOut_58 : decode y_M_laysOut.2.1 58 = .ok (.aload_n 0, 1) := by decide +kernel
theorem d_M_laysOut_59 : decode y_M_laysOut.2.1 59 = .ok (.iload_n 3, 1) := by decide +kernel
theorem d_M_laysOut_60 : decode y_M_laysOut.2.1 60 = .ok (.iload_n 1, 1) := by decide +kernel
theorem d_M_laysOut_61 : decode y_M_laysOut.2.1 61 = .ok (.iload_n 2, 1) := by decide +kernel
theorem d_M_laysOut_62 : decode y_M_laysOut.2.1 62 = .ok (.invokevirtual 150, 3) := by decide +kernel
theorem d_M_laysOut_65 : decode y_M_laysOut.2.1 65 = .ok (.ifCond .eq 7, 3) := by decide +kernel
theorem d_M_laysOut_68 : decode y_M_laysOut.2.1 68 = .ok (.iconst 1, 1) := by decide +kernel
theorem d_M_laysOut_69 : decode y_M_laysOut.2.1 69 = .ok (.goto 4, 3) := by decide +kernel
theorem d_M_laysOut_72 : decode y_M_laysOut.2.1 72 = .ok (.iconst 0, 1) := by decide +kernel
theorem d_M_laysOut_73 : decode y_M_laysOut.2.1 73 = .ok (.istore 4, 2) := by decide +kernel
theorem d_M_laysOut_75 : decode y_M_laysOut.2.1 75 = .ok (.aload_n 0, 1) := by decide +kernel
theorem d_M_laysOut_76 : decode y_M_laysOut.2.1 76 = .ok (.getfield 343, 3) := by decide +kernel
theorem d_M_laysOut_79 : decode y_M_laysOut.2.1 79 = .ok (.bipush 24, 2) := by decide +kernel
theorem d_M_laysOut_81 : decode y_M_laysOut.2.1 81 = .ok (.iload_n 2, 1) := by decide +kernel
theorem d_M_laysOut_82 : decode y_M_laysOut.2.1 82 = .ok (.imul, 1) := by decide +kernel
theorem d_M_laysOut_83 : decode y_M_laysOut.2.1 83 = .ok (.iload_n 3, 1) := by decide +kernel
theorem d_M_laysOut_84 : decode y_M_laysOut.2.1 84 = .ok (.iadd, 1) := by decide +kernel
theorem d_M_laysOut_85 : decode y_M_laysOut.2.1 85 = .ok (.iload 4, 2) := by decide +kernel
theorem d_M_laysOut_87 : decode y_M_laysOut.2.1 87 = .ok (.ifCond .eq 16, 3) := by decide +kernel
theorem d_M_laysOut_90 : decode y_M_laysOut.2.1 90 = .ok (.aload_n 0, 1) := by decide +kernel
theorem d_M_laysOut_91 : decode y_M_laysOut.2.1 91 = .ok (.iload_n 1, 1) := by decide +kernel
theorem d_M_laysOut_92 : decode y_M_laysOut.2.1 92 = .ok (.iload_n 2, 1) := by decide +kernel
theorem d_M_laysOut_93 : decode y_M_laysOut.2.1 93 = .ok (.iconst 1, 1) := by decide +kernel
theorem d_M_laysOut_94 : decode y_M_laysOut.2.1 94 = .ok (.iload_n 3, 1) := by decide +kernel
theorem d_M_laysOut_95 : decode y_M_laysOut.2.1 95 = .ok (.ishl, 1) := by decide +kernel
theorem d_M_laysOut_96 : decode y_M_laysOut.2.1 96 = .ok (.ior, 1) := by decide +kernel
theorem d_M_laysOut_97 : decode y_M_laysOut.2.1 97 = .ok (.invokevirtual 186, 3) := by decide +kernel
theorem d_M_laysOut_100 : decode y_M_laysOut.2.1 100 = .ok (.goto 4, 3) := by decide +kernel
theorem d_M_laysOut_103 : decode y_M_laysOut.2.1 103 = .ok (.iconst (-1), 1) := by decide +kernel
theorem d_M_laysOut_104 : decode y_M_laysOut.2.1 104 = .ok (.iastore, 1) := by decide +kernel
theorem d_M_laysOut_105 : decode y_M_laysOut.2.1 105 = .ok (.aload_n 0, 1) := by decide +kernel
theorem d_M_laysOut_106 : decode y_M_laysOut.2.1 106 = .ok (.getfield 343, 3) := by decide +kernel
theorem d_M_laysOut_109 : decode y_M_laysOut.2.1 109 = .ok (.bipush 24, 2) := by decide +kernel
theorem d_M_laysOut_111 : decode y_M_laysOut.2.1 111 = .ok (.iload_n 2, 1) := by decide +kernel
theorem d_M_laysOut_112 : decode y_M_laysOut.2.1 112 = .ok (.imul, 1) := by decide +kernel
theorem d_M_laysOut_113 : decode y_M_laysOut.2.1 113 = .ok (.bipush 12, 2) := by decide +kernel
theorem d_M_laysOut_115 : decode y_M_laysOut.2.1 115 = .ok (.iadd, 1) := by decide +kernel
theorem d_M_laysOut_116 : decode y_M_laysOut.2.1 116 = .ok (.iload_n 3, 1) := by decide +kernel
theorem d_M_laysOut_117 : decode y_M_laysOut.2.1 117 = .ok (.iadd, 1) := by decide +kernel
theorem d_M_laysOut_118 : decode y_M_laysOut.2.1 118 = .ok (.iload_n 2, 1) := by decide +kernel
theorem d_M_laysOut_119 : decode y_M_laysOut.2.1 119 = .ok (.iload_n 3, 1) := by decide +kernel
theorem d_M_laysOut_120 : decode y_M_laysOut.2.1 120 = .ok (.invokestatic 29, 3) := by decide +kernel
theorem d_M_laysOut_123 : decode y_M_laysOut.2.1 123 = .ok (.ifCond .eq 18, 3) := by decide +kernel
theorem d_M_laysOut_126 : decode y_M_laysOut.2.1 126 = .ok (.aload_n 0, 1) := by decide +kernel
theorem d_M_laysOut_127 : decode y_M_laysOut.2.1 127 = .ok (.iload_n 1, 1) := by decide +kernel
theorem d_M_laysOut_128 : decode y_M_laysOut.2.1 128 = .ok (.iload_n 2, 1) := by decide +kernel
theorem d_M_laysOut_129 : decode y_M_laysOut.2.1 129 = .ok (.iconst 1, 1) := by decide +kernel
theorem d_M_laysOut_130 : decode y_M_laysOut.2.1 130 = .ok (.iload_n 3, 1) := by decide +kernel
theorem d_M_laysOut_131 : decode y_M_laysOut.2.1 131 = .ok (.ishl, 1) := by decide +kernel
theorem d_M_laysOut_132 : decode y_M_laysOut.2.1 132 = .ok (.iconst (-1), 1) := by decide +kernel
theorem d_M_laysOut_133 : decode y_M_laysOut.2.1 133 = .ok (.ixor, 1) := by decide +kernel
theorem d_M_laysOut_134 : decode y_M_laysOut.2.1 134 = .ok (.iand, 1) := by decide +kernel
theorem d_M_laysOut_135 : decode y_M_laysOut.2.1 135 = .ok (.invokevirtual 186, 3) := by decide +kernel
theorem d_M_laysOut_138 : decode y_M_laysOut.2.1 138 = .ok (.goto 4, 3) := by decide +kernel
theorem d_M_laysOut_141 : decode y_M_laysOut.2.1 141 = .ok (.iconst (-1), 1) := by decide +kernel
theorem d_M_laysOut_142 : decode y_M_laysOut.2.1 142 = .ok (.iastore, 1) := by decide +kernel
theorem d_M_laysOut_143 : decode y_M_laysOut.2.1 143 = .ok (.iinc 3 1, 3) := by decide +kernel
theorem d_M_laysOut_146 : decode y_M_laysOut.2.1 146 = .ok (.goto (-132), 3) := by decide +kernel
theorem d_M_laysOut_149 : decode y_M_laysOut.2.1 149 = .ok (.iinc 2 1, 3) := by decide +kernel
theorem d_M_laysOut_152 : decode y_M_laysOut.2.1 152 = .ok (.goto (-150), 3) := by decide +kernel
theorem d_M_laysOut_155 : decode y_M_laysOut.2.1 155 = .ok (.return_, 1) := by decide +kernel
theorem d_M_spreads_0 : decode y_M_spreads.2.1 0 = .ok (.iconst 0, 1) := by decide +kernel
theorem d_M_spreads_1 : decode y_M_spreads.2.1 1 = .ok (.istore_n 2, 1) := by decide +kernel
theorem d_M_spreads_2 : decode y_M_spreads.2.1 2 = .ok (.iload_n 2, 1) := by decide +kernel
theorem d_M_spreads_3 : decode y_M_spreads.2.1 3 = .ok (.iconst 1, 1) := by decide +kernel
theorem d_M_spreads_4 : decode y_M_spreads.2.1 4 = .ok (.aload_n 0, 1) := by decide +kernel
theorem d_M_spreads_5 : decode y_M_spreads.2.1 5 = .ok (.getfield 14, 3) := by decide +kernel
theorem d_M_spreads_8 : decode y_M_spreads.2.1 8 = .ok (.ishl, 1) := by decide +kernel
theorem d_M_spreads_9 : decode y_M_spreads.2.1 9 = .ok (.if_icmp .ge 16, 3) := by decide +kernel
theorem d_M_spreads_12 : decode y_M_spreads.2.1 12 = .ok (.aload_n 0, 1) := by decide +kernel
theorem d_M_spreads_13 : decode y_M_spreads.2.1 13 = .ok (.getfield 346, 3) := by decide +kernel
theorem d_M_spreads_16 : decode y_M_spreads.2.1 16 = .ok (.iload_n 2, 1) := by decide +kernel
theorem d_M_spreads_17 : decode y_M_spreads.2.1 17 = .ok (.iconst (-1), 1) := by decide +kernel
theorem d_M_spreads_18 : decode y_M_spreads.2.1 18 = .ok (.iastore, 1) := by decide +kernel
theorem d_M_spreads_19 : decode y_M_spreads.2.1 19 = .ok (.iinc 2 1, 3) := by decide +kernel
theorem d_M_spreads_22 : decode y_M_spreads.2.1 22 = .ok (.goto (-20), 3) := by decide +kernel
theorem d_M_spreads_25 : decode y_M_spreads.2.1 25 = .ok (.aload_n 0, 1) := by decide +kernel
theorem d_M_spreads_26 : decode y_M_spreads.2.1 26 = .ok (.getfield 349, 3) := by decide +kernel
theorem d_M_spreads_29 : decode y_M_spreads.2.1 29 = .ok (.iconst 0, 1) := by decide +kernel
theorem d_M_spreads_30 : decode y_M_spreads.2.1 30 = .ok (.iload_n 1, 1) := by decide +kernel
theorem d_M_spreads_31 : decode y_M_spreads.2.1 31 = .ok (.iastore, 1) := by decide +kernel
theorem d_M_spreads_32 : decode y_M_spreads.2.1 32 = .ok (.aload_n 0, 1) := by decide +kernel
theorem d_M_spreads_33 : decode y_M_spreads.2.1 33 = .ok (.iconst 1, 1) := by decide +kernel
theorem d_M_spreads_34 : decode y_M_spreads.2.1 34 = .ok (.putfield 352, 3) := by decide +kernel
theorem d_M_spreads_37 : decode y_M_spreads.2.1 37 = .ok (.aload_n 0, 1) := by decide +kernel
theorem d_M_spreads_38 : decode y_M_spreads.2.1 38 = .ok (.getfield 346, 3) := by decide +kernel
theorem d_M_spreads_41 : decode y_M_spreads.2.1 41 = .ok (.iload_n 1, 1) := by decide +kernel
theorem d_M_spreads_42 : decode y_M_spreads.2.1 42 = .ok (.iconst 0, 1) := by decide +kernel
theorem d_M_spreads_43 : decode y_M_spreads.2.1 43 = .ok (.iastore, 1) := by decide +kernel
theorem d_M_spreads_44 : decode y_M_spreads.2.1 44 = .ok (.aload_n 0, 1) := by decide +kernel
theorem d_M_spreads_45 : decode y_M_spreads.2.1 45 = .ok (.getfield 355, 3) := by decide +kernel
theorem d_M_spreads_48 : decode y_M_spreads.2.1 48 = .ok (.iload_n 1, 1) := by decide +kernel
theorem d_M_spreads_49 : decode y_M_spreads.2.1 49 = .ok (.iconst (-1), 1) := by decide +kernel
theorem d_M_spreads_50 : decode y_M_spreads.2.1 50 = .ok (.iastore, 1) := by decide +kernel
theorem d_M_spreads_51 : decode y_M_spreads.2.1 51 = .ok (.iconst 0, 1) := by decide +kernel
theorem d_M_spreads_52 : decode y_M_spreads.2.1 52 = .ok (.istore_n 2, 1) := by decide +kernel
theorem d_M_spreads_53 : decode y_M_spreads.2.1 53 = .ok (.iload_n 2, 1) := by decide +kernel
theorem d_M_spreads_54 : decode y_M_spreads.2.1 54 = .ok (.aload_n 0, 1) := by decide +kernel
theorem d_M_spreads_55 : decode y_M_spreads.2.1 55 = .ok (.getfield 352, 3) := by decide +kernel
theorem d_M_spreads_58 : decode y_M_spreads.2.1 58 = .ok (.if_icmp .ge 122, 3) := by decide +kernel
theorem d_M_spreads_61 : decode y_M_spreads.2.1 61 = .ok (.aload_n 0, 1) := by decide +kernel
theorem d_M_spreads_62 : decode y_M_spreads.2.1 62 = .ok (.getfield 349, 3) := by decide +kernel
theorem d_M_spreads_65 : decode y_M_spreads.2.1 65 = .ok (.iload_n 2, 1) := by decide +kernel
theorem d_M_spreads_66 : decode y_M_spreads.2.1 66 = .ok (.iaload, 1) := by decide +kernel
theorem d_M_spreads_67 : decode y_M_spreads.2.1 67 = .ok (.istore_n 3, 1) := by decide +kernel
theorem d_M_spreads_68 : decode y_M_spreads.2.1 68 = .ok (.iconst 0, 1) := by decide +kernel
theorem d_M_spreads_69 : decode y_M_spreads.2.1 69 = .ok (.istore 4, 2) := by decide +kernel
theorem d_M_spreads_71 : decode y_M_spreads.2.1 71 = .ok (.iload 4, 2) := by decide +kernel
theorem d_M_spreads_73 : decode y_M_spreads.2.1 73 = .ok (.bipush 24, 2) := by decide +kernel
theorem d_M_spreads_75 : decode y_M_spreads.2.1 75 = .ok (.if_icmp .ge 99, 3) := by decide +kernel
theorem d_M_spreads_78 : decode y_M_spreads.2.1 78 = .ok (.iload 4, 2) := by decide +kernel
theorem d_M_spreads_80 : decode y_M_spreads.2.1 80 = .ok (.bipush 12, 2) := by decide +kernel
theorem d_M_spreads_82 : decode y_M_spreads.2.1 82 = .ok (.irem, 1) := by decide +kernel
theorem d_M_spreads_83 : decode y_M_spreads.2.1 83 = .ok (.aload_n 0, 1) := by decide +kernel
theorem d_M_spreads_84 : decode y_M_spreads.2.1 84 = .ok (.getfield 14, 3) := by decide +kernel
theorem d_M_spreads_87 : decode y_M_spreads.2.1 87 = .ok (.if_icmp .ge 13, 3) := by decide +kernel
theorem d_M_spreads_90 : decode y_M_spreads.2.1 90 = .ok (.aload_n 0, 1) := by decide +kernel
theorem d_M_spreads_91 : decode y_M_spreads.2.1 91 = .ok (.iload_n 3, 1) := by decide +kernel
theorem d_M_spreads_92 : decode y_M_spreads.2.1 92 = .ok (.iload 4, 2) := by decide +kernel
theorem d_M_spreads_94 : decode y_M_spreads.2.1 94 = .ok (.invokevirtual 358, 3) := by decide +kernel
theorem d_M_spreads_97 : decode y_M_spreads.2.1 97 = .ok (.goto 4, 3) := by decide +kernel
theorem d_M_spreads_100 : decode y_M_spreads.2.1 100 = .ok (.iconst (-1), 1) := by decide +kernel
theorem d_M_spreads_101 : decode y_M_spreads.2.1 101 = .ok (.istore 5, 2) := by decide +kernel
theorem d_M_spreads_103 : decode y_M_spreads.2.1 103 = .ok (.iload 5, 2) := by decide +kernel
theorem d_M_spreads_105 : decode y_M_spreads.2.1 105 = .ok (.ifCond .lt 63, 3) := by decide +kernel
theorem d_M_spreads_108 : decode y_M_spreads.2.1 108 = .ok (.aload_n 0, 1) := by decide +kernel
theorem d_M_spreads_109 : decode y_M_spreads.2.1 109 = .ok (.getfield 346, 3) := by decide +kernel
theorem d_M_spreads_112 : decode y_M_spreads.2.1 112 = .ok (.iload 5, 2) := by decide +kernel
theorem d_M_spreads_114 : decode y_M_spreads.2.1 114 = .ok (.iaload, 1) := by decide +kernel
theorem d_M_spreads_115 : decode y_M_spreads.2.1 115 = .ok (.ifCond .ge 53, 3) := by decide +kernel
theorem d_M_spreads_118 : decode y_M_spreads.2.1 118 = .ok (.aload_n 0, 1) := by decide +kernel
theorem d_M_spreads_119 : decode y_M_spreads.2.1 119 = .ok (.getfield 346, 3) := by decide +kernel
theorem d_M_spreads_122 : decode y_M_spreads.2.1 122 = .ok (.iload 5, 2) := by decide +kernel
theorem d_M_spreads_124 : decode y_M_spreads.2.1 124 = .ok (.aload_n 0, 1) := by decide +kernel
theorem d_M_spreads_125 : decode y_M_spreads.2.1 125 = .ok (.getfield 346, 3) := by decide +kernel
theorem d_M_spreads_128 : decode y_M_spreads.2.1 128 = .ok (.iload_n 3, 1) := by decide +kernel
theorem d_M_spreads_129 : decode y_M_spreads.2.1 129 = .ok (.iaload, 1) := by decide +kernel
theorem d_M_spreads_130 : decode y_M_spreads.2.1 130 = .ok (.iconst 1, 1) := by decide +kernel
theorem d_M_spreads_131 : decode y_M_spreads.2.1 131 = .ok (.iadd, 1) := by decide +kernel
theorem d_M_spreads_132 : decode y_M_spreads.2.1 132 = .ok (.iastore, 1) := by decide +kernel
theorem d_M_spreads_133 : decode y_M_spreads.2.1 133 = .ok (.aload_n 0, 1) := by decide +kernel
theorem d_M_spreads_134 : decode y_M_spreads.2.1 134 = .ok (.getfield 355, 3) := by decide +kernel
theorem d_M_spreads_137 : decode y_M_spreads.2.1 137 = .ok (.iload 5, 2) := by decide +kernel
theorem d_M_spreads_139 : decode y_M_spreads.2.1 139 = .ok (.bipush 24, 2) := by decide +kernel
theorem d_M_spreads_141 : decode y_M_spreads.2.1 141 = .ok (.iload_n 3, 1) := by decide +kernel
theorem d_M_spreads_142 : decode y_M_spreads.2.1 142 = .ok (.imul, 1) := by decide +kernel
theorem d_M_spreads_143 : decode y_M_spreads.2.1 143 = .ok (.iload 4, 2) := by decide +kernel
theorem d_M_spreads_145 : decode y_M_spreads.2.1 145 = .ok (.iadd, 1) := by decide +kernel
theorem d_M_spreads_146 : decode y_M_spreads.2.1 146 = .ok (.iastore, 1) := by decide +kernel
theorem d_M_spreads_147 : decode y_M_spreads.2.1 147 = .ok (.aload_n 0, 1) := by decide +kernel
theorem d_M_spreads_148 : decode y_M_spreads.2.1 148 = .ok (.getfield 349, 3) := by decide +kernel
theorem d_M_spreads_151 : decode y_M_spreads.2.1 151 = .ok (.aload_n 0, 1) := by decide +kernel
theorem d_M_spreads_152 : decode y_M_spreads.2.1 152 = .ok (.getfield 352, 3) := by decide +kernel
theorem d_M_spreads_155 : decode y_M_spreads.2.1 155 = .ok (.iload 5, 2) := by decide +kernel
theorem d_M_spreads_157 : decode y_M_spreads.2.1 157 = .ok (.iastore, 1) := by decide +kernel
theorem d_M_spreads_158 : decode y_M_spreads.2.1 158 = .ok (.aload_n 0, 1) := by decide +kernel
theorem d_M_spreads_159 : decode y_M_spreads.2.1 159 = .ok (.dup, 1) := by decide +kernel
theorem d_M_spreads_160 : decode y_M_spreads.2.1 160 = .ok (.getfield 352, 3) := by decide +kernel
theorem d_M_spreads_163 : decode y_M_spreads.2.1 163 = .ok (.iconst 1, 1) := by decide +kernel
theorem d_M_spreads_164 : decode y_M_spreads.2.1 164 = .ok (.iadd, 1) := by decide +kernel
theorem d_M_spreads_165 : decode y_M_spreads.2.1 165 = .ok (.putfield 352, 3) := by decide +kernel
theorem d_M_spreads_168 : decode y_M_spreads.2.1 168 = .ok (.iinc 4 1, 3) := by decide +kernel
theorem d_M_spreads_171 : decode y_M_spreads.2.1 171 = .ok (.goto (-100), 3) := by decide +kernel
theorem d_M_spreads_174 : decode y_M_spreads.2.1 174 = .ok (.iinc 2 1, 3) := by decide +kernel
theorem d_M_spreads_177 : decode y_M_spreads.2.1 177 = .ok (.goto (-124), 3) := by decide +kernel
theorem d_M_spreads_180 : decode y_M_spreads.2.1 180 = .ok (.return_, 1) := by decide +kernel
theorem d_M_everOpen_0 : decode y_M_everOpen.2.1 0 = .ok (.iconst 0, 1) := by decide +kernel
theorem d_M_everOpen_1 : decode y_M_everOpen.2.1 1 = .ok (.istore_n 1, 1) := by decide +kernel
theorem d_M_everOpen_2 : decode y_M_everOpen.2.1 2 = .ok (.iconst 0, 1) := by decide +kernel
theorem d_M_everOpen_3 : decode y_M_everOpen.2.1 3 = .ok (.istore_n 2, 1) := by decide +kernel
theorem d_M_everOpen_4 : decode y_M_everOpen.2.1 4 = .ok (.iload_n 2, 1) := by decide +kernel
theorem d_M_everOpen_5 : decode y_M_everOpen.2.1 5 = .ok (.aload_n 0, 1) := by decide +kernel
theorem d_M_everOpen_6 : decode y_M_everOpen.2.1 6 = .ok (.getfield 352, 3) := by decide +kernel
theorem d_M_everOpen_9 : decode y_M_everOpen.2.1 9 = .ok (.if_icmp .ge 18, 3) := by decide +kernel
theorem d_M_everOpen_12 : decode y_M_everOpen.2.1 12 = .ok (.iload_n 1, 1) := by decide +kernel
theorem d_M_everOpen_13 : decode y_M_everOpen.2.1 13 = .ok (.aload_n 0, 1) := by decide +kernel
theorem d_M_everOpen_14 : decode y_M_everOpen.2.1 14 = .ok (.getfield 349, 3) := by decide +kernel
theorem d_M_everOpen_17 : decode y_M_everOpen.2.1 17 = .ok (.iload_n 2, 1) := by decide +kernel
theorem d_M_everOpen_18 : decode y_M_everOpen.2.1 18 = .ok (.iaload, 1) := by decide +kernel
theorem d_M_everOpen_19 : decode y_M_everOpen.2.1 19 = .ok (.ior, 1) := by decide +kernel
theorem d_M_everOpen_20 : decode y_M_everOpen.2.1 20 = .ok (.istore_n 1, 1) := by decide +kernel
theorem d_M_everOpen_21 : decode y_M_everOpen.2.1 21 = .ok (.iinc 2 1, 3) := by decide +kernel
theorem d_M_everOpen_24 : decode y_M_everOpen.2.1 24 = .ok (.goto (-20), 3) := by decide +kernel
theorem d_M_everOpen_27 : decode y_M_everOpen.2.1 27 = .ok (.iload_n 1, 1) := by decide +kernel
theorem d_M_everOpen_28 : decode y_M_everOpen.2.1 28 = .ok (.ireturn, 1) := by decide +kernel
theorem d_M_hold_0 : decode y_M_hold.2.1 0 = .ok (.aload_n 0, 1) := by decide +kernel
theorem d_M_hold_1 : decode y_M_hold.2.1 1 = .ok (.iconst 0, 1) := by decide +kernel
theorem d_M_hold_2 : decode y_M_hold.2.1 2 = .ok (.putfield 3, 3) := by decide +kernel
theorem d_M_hold_5 : decode y_M_hold.2.1 5 = .ok (.iload_n 1, 1) := by decide +kernel
theorem d_M_hold_6 : decode y_M_hold.2.1 6 = .ok (.invokestatic 194, 3) := by decide +kernel
theorem d_M_hold_9 : decode y_M_hold.2.1 9 = .ok (.ifCond .ne 5, 3) := by decide +kernel
theorem d_M_hold_12 : decode y_M_hold.2.1 12 = .ok (.iconst (-1), 1) := by decide +kernel
theorem d_M_hold_13 : decode y_M_hold.2.1 13 = .ok (.ireturn, 1) := by decide +kernel
theorem d_M_hold_14 : decode y_M_hold.2.1 14 = .ok (.iconst 0, 1) := by decide +kernel
theorem d_M_hold_15 : decode y_M_hold.2.1 15 = .ok (.istore_n 2, 1) := by decide +kernel
theorem d_M_hold_16 : decode y_M_hold.2.1 16 = .ok (.iconst 0, 1) := by decide +kernel
theorem d_M_hold_17 : decode y_M_hold.2.1 17 = .ok (.istore_n 3, 1) := by decide +kernel
theorem d_M_hold_18 : decode y_M_hold.2.1 18 = .ok (.iconst 0, 1) := by decide +kernel
theorem d_M_hold_19 : decode y_M_hold.2.1 19 = .ok (.istore 4, 2) := by decide +kernel
theorem d_M_hold_21 : decode y_M_hold.2.1 21 = .ok (.iload 4, 2) := by decide +kernel
theorem d_M_hold_23 : decode y_M_hold.2.1 23 = .ok (.iconst 1, 1) := by decide +kernel
theorem d_M_hold_24 : decode y_M_hold.2.1 24 = .ok (.aload_n 0, 1) := by decide +kernel
theorem d_M_hold_25 : decode y_M_hold.2.1 25 = .ok (.getfield 14, 3) := by decide +kernel
theorem d_M_hold_28 : decode y_M_hold.2.1 28 = .ok (.ishl, 1) := by decide +kernel
theorem d_M_hold_29 : decode y_M_hold.2.1 29 = .ok (.if_icmp .ge 57, 3) := by decide +kernel
theorem d_M_hold_32 : decode y_M_hold.2.1 32 = .ok (.iload 4, 2) := by decide +kernel
theorem d_M_hold_34 : decode y_M_hold.2.1 34 = .ok (.invokestatic 118, 3) := by decide +kernel
theorem d_M_hold_37 : decode y_M_hold.2.1 37 = .ok (.aload_n 0, 1) := by decide +kernel
theorem d_M_hold_38 : decode y_M_hold.2.1 38 = .ok (.getfield 199, 3) := by decide +kernel
theorem d_M_hold_41 : decode y_M_hold.2.1 41 = .ok (.iload_n 1, 1) := by decide +kernel
theorem d_M_hold_42 : decode y_M_hold.2.1 42 = .ok (.iaload, 1) := by decide +kernel
theorem d_M_hold_43 : decode y_M_hold.2.1 43 = .ok (.if_icmp .gt 37, 3) := by decide +kernel
theorem d_M_hold_46 : decode y_M_hold.2.1 46 = .ok (.aload_n 0, 1) := by decide +kernel
theorem d_M_hold_47 : decode y_M_hold.2.1 47 = .ok (.iload_n 1, 1) := by decide +kernel
theorem d_M_hold_48 : decode y_M_hold.2.1 48 = .ok (.iload 4, 2) := by decide +kernel
theorem d_M_hold_50 : decode y_M_hold.2.1 50 = .ok (.invokevirtual 186, 3) := by decide +kernel
theorem d_M_hold_53 : decode y_M_hold.2.1 53 = .ok (.iload 4, 2) := by decide +kernel
theorem d_M_hold_55 : decode y_M_hold.2.1 55 = .ok (.if_icmp .ne 25, 3) := by decide +kernel
theorem d_M_hold_58 : decode y_M_hold.2.1 58 = .ok (.iinc 2 1, 3) := by decide +kernel
theorem d_M_hold_61 : decode y_M_hold.2.1 61 = .ok (.iload 4, 2) := by decide +kernel
theorem d_M_hold_63 : decode y_M_hold.2.1 63 = .ok (.invokestatic 118, 3) := by decide +kernel
theorem d_M_hold_66 : decode y_M_hold.2.1 66 = .ok (.iload_n 3, 1) := by decide +kernel
theorem d_M_hold_67 : decode y_M_hold.2.1 67 = .ok (.invokestatic 118, 3) := by decide +kernel
theorem d_M_hold_70 : decode y_M_hold.2.1 70 = .ok (.if_icmp .le 8, 3) := by decide +kernel
theorem d_M_hold_73 : decode y_M_hold.2.1 73 = .ok (.iload 4, 2) := by decide +kernel
theorem d_M_hold_75 : decode y_M_hold.2.1 75 = .ok (.goto 4, 3) := by decide +kernel
theorem d_M_hold_78 : decode y_M_hold.2.1 78 = .ok (.iload_n 3, 1) := by decide +kernel
theorem d_M_hold_79 : decode y_M_hold.2.1 79 = .ok (.istore_n 3, 1) := by decide +kernel
theorem d_M_hold_80 : decode y_M_hold.2.1 80 = .ok (.iinc 4 1, 3) := by decide +kernel
theorem d_M_hold_83 : decode y_M_hold.2.1 83 = .ok (.goto (-62), 3) := by decide +kernel
theorem d_M_hold_86 : decode y_M_hold.2.1 86 = .ok (.aload_n 0, 1) := by decide +kernel
theorem d_M_hold_87 : decode y_M_hold.2.1 87 = .ok (.iconst 0, 1) := by decide +kernel
theorem d_M_hold_88 : decode y_M_hold.2.1 88 = .ok (.putfield 11, 3) := by decide +kernel
theorem d_M_hold_91 : decode y_M_hold.2.1 91 = .ok (.aload_n 0, 1) := by decide +kernel
theorem d_M_hold_92 : decode y_M_hold.2.1 92 = .ok (.iload_n 3, 1) := by decide +kernel
theorem d_M_hold_93 : decode y_M_hold.2.1 93 = .ok (.invokevirtual 236, 3) := by decide +kernel
theorem d_M_hold_96 : decode y_M_hold.2.1 96 = .ok (.iload_n 2, 1) := by decide +kernel
theorem d_M_hold_97 : decode y_M_hold.2.1 97 = .ok (.ireturn, 1) := by decide +kernel
theorem d_M_comes_0 : decode y_M_comes.2.1 0 = .ok (.aload_n 0, 1) := by decide +kernel
theorem d_M_comes_1 : decode y_M_comes.2.1 1 = .ok (.iconst 0, 1) := by decide +kernel
theorem d_M_comes_2 : decode y_M_comes.2.1 2 = .ok (.putfield 3, 3) := by decide +kernel
theorem d_M_comes_5 : decode y_M_comes.2.1 5 = .ok (.iload_n 1, 1) := by decide +kernel
theorem d_M_comes_6 : decode y_M_comes.2.1 6 = .ok (.invokestatic 194, 3) := by decide +kernel
theorem d_M_comes_9 : decode y_M_comes.2.1 9 = .ok (.ifCond .ne 5, 3) := by decide +kernel
theorem d_M_comes_12 : decode y_M_comes.2.1 12 = .ok (.iconst (-1), 1) := by decide +kernel
theorem d_M_comes_13 : decode y_M_comes.2.1 13 = .ok (.ireturn, 1) := by decide +kernel
theorem d_M_comes_14 : decode y_M_comes.2.1 14 = .ok (.aload_n 0, 1) := by decide +kernel
theorem d_M_comes_15 : decode y_M_comes.2.1 15 = .ok (.iload_n 1, 1) := by decide +kernel
theorem d_M_comes_16 : decode y_M_comes.2.1 16 = .ok (.invokevirtual 361, 3) := by decide +kernel
theorem d_M_comes_19 : decode y_M_comes.2.1 19 = .ok (.aload_n 0, 1) := by decide +kernel
theorem d_M_comes_20 : decode y_M_comes.2.1 20 = .ok (.iconst 0, 1) := by decide +kernel
theorem d_M_comes_21 : decode y_M_comes.2.1 21 = .ok (.invokevirtual 364, 3) := by decide +kernel
theorem d_M_comes_24 : decode y_M_comes.2.1 24 = .ok (.aload_n 0, 1) := by decide +kernel
theorem d_M_comes_25 : decode y_M_comes.2.1 25 = .ok (.iconst 0, 1) := by decide +kernel
theorem d_M_comes_26 : decode y_M_comes.2.1 26 = .ok (.putfield 11, 3) := by decide +kernel
theorem d_M_comes_29 : decode y_M_comes.2.1 29 = .ok (.aload_n 0, 1) := by decide +kernel
theorem d_M_comes_30 : decode y_M_comes.2.1 30 = .ok (.aload_n 0, 1) := by decide +kernel
theorem d_M_comes_31 : decode y_M_comes.2.1 31 = .ok (.invokevirtual 367, 3) := by decide +kernel
theorem d_M_comes_34 : decode y_M_comes.2.1 34 = .ok (.invokevirtual 236, 3) := by decide +kernel
theorem d_M_comes_37 : decode y_M_comes.2.1 37 = .ok (.aload_n 0, 1) := by decide +kernel
theorem d_M_comes_38 : decode y_M_comes.2.1 38 = .ok (.aload_n 0, 1) := by decide +kernel
theorem d_M_comes_39 : decode y_M_comes.2.1 39 = .ok (.getfield 346, 3) := by decide +kernel
theorem d_M_comes_42 : decode y_M_comes.2.1 42 = .ok (.aload_n 0, 1) := by decide +kernel
theorem d_M_comes_43 : decode y_M_comes.2.1 43 = .ok (.getfield 349, 3) := by decide +kernel
theorem d_M_comes_46 : decode y_M_comes.2.1 46 = .ok (.aload_n 0, 1) := by decide +kernel
theorem d_M_comes_47 : decode y_M_comes.2.1 47 = .ok (.getfield 352, 3) := by decide +kernel
theorem d_M_comes_50 : decode y_M_comes.2.1 50 = .ok (.iconst 1, 1) := by decide +kernel
theorem d_M_comes_51 : decode y_M_comes.2.1 51 = .ok (.isub, 1) := by decide +kernel
theorem d_M_comes_52 : decode y_M_comes.2.1 52 = .ok (.iaload, 1) := by decide +kernel
theorem d_M_comes_53 : decode y_M_comes.2.1 53 = .ok (.iaload, 1) := by decide +kernel
theorem d_M_comes_54 : decode y_M_comes.2.1 54 = .ok (.invokevirtual 236, 3) := by decide +kernel
theorem d_M_comes_57 : decode y_M_comes.2.1 57 = .ok (.aload_n 0, 1) := by decide +kernel
theorem d_M_comes_58 : decode y_M_comes.2.1 58 = .ok (.getfield 352, 3) := by decide +kernel
theorem d_M_comes_61 : decode y_M_comes.2.1 61 = .ok (.ireturn, 1) := by decide +kernel
theorem d_M_tellsWay_0 : decode y_M_tellsWay.2.1 0 = .ok (.aload_n 0, 1) := by decide +kernel
theorem d_M_tellsWay_1 : decode y_M_tellsWay.2.1 1 = .ok (.getfield 346, 3) := by decide +kernel
theorem d_M_tellsWay_4 : decode y_M_tellsWay.2.1 4 = .ok (.iload_n 1, 1) := by decide +kernel
theorem d_M_tellsWay_5 : decode y_M_tellsWay.2.1 5 = .ok (.iaload, 1) := by decide +kernel
theorem d_M_tellsWay_6 : decode y_M_tellsWay.2.1 6 = .ok (.istore_n 3, 1) := by decide +kernel
theorem d_M_tellsWay_7 : decode y_M_tellsWay.2.1 7 = .ok (.iload_n 1, 1) := by decide +kernel
theorem d_M_tellsWay_8 : decode y_M_tellsWay.2.1 8 = .ok (.istore 4, 2) := by decide +kernel
theorem d_M_tellsWay_10 : decode y_M_tellsWay.2.1 10 = .ok (.iload_n 3, 1) := by decide +kernel
theorem d_M_tellsWay_11 : decode y_M_tellsWay.2.1 11 = .ok (.iconst 1, 1) := by decide +kernel
theorem d_M_tellsWay_12 : decode y_M_tellsWay.2.1 12 = .ok (.isub, 1) := by decide +kernel
theorem d_M_tellsWay_13 : decode y_M_tellsWay.2.1 13 = .ok (.istore 5, 2) := by decide +kernel
theorem d_M_tellsWay_15 : decode y_M_tellsWay.2.1 15 = .ok (.iload 5, 2) := by decide +kernel
theorem d_M_tellsWay_17 : decode y_M_tellsWay.2.1 17 = .ok (.ifCond .lt 65, 3) := by decide +kernel
theorem d_M_tellsWay_20 : decode y_M_tellsWay.2.1 20 = .ok (.aload_n 0, 1) := by decide +kernel
theorem d_M_tellsWay_21 : decode y_M_tellsWay.2.1 21 = .ok (.getfield 355, 3) := by decide +kernel
theorem d_M_tellsWay_24 : decode y_M_tellsWay.2.1 24 = .ok (.iload 4, 2) := by decide +kernel
theorem d_M_tellsWay_26 : decode y_M_tellsWay.2.1 26 = .ok (.iaload, 1) := by decide +kernel
theorem d_M_tellsWay_27 : decode y_M_tellsWay.2.1 27 = .ok (.bipush 24, 2) := by decide +kernel
theorem d_M_tellsWay_29 : decode y_M_tellsWay.2.1 29 = .ok (.irem, 1) := by decide +kernel
theorem d_M_tellsWay_30 : decode y_M_tellsWay.2.1 30 = .ok (.istore 6, 2) := by decide +kernel
theorem d_M_tellsWay_32 : decode y_M_tellsWay.2.1 32 = .ok (.aload_n 0, 1) := by decide +kernel
theorem d_M_tellsWay_33 : decode y_M_tellsWay.2.1 33 = .ok (.getfield 370, 3) := by decide +kernel
theorem d_M_tellsWay_36 : decode y_M_tellsWay.2.1 36 = .ok (.iload 5, 2) := by decide +kernel
theorem d_M_tellsWay_38 : decode y_M_tellsWay.2.1 38 = .ok (.iload 6, 2) := by decide +kernel
theorem d_M_tellsWay_40 : decode y_M_tellsWay.2.1 40 = .ok (.bipush 12, 2) := by decide +kernel
theorem d_M_tellsWay_42 : decode y_M_tellsWay.2.1 42 = .ok (.if_icmp .ge 13, 3) := by decide +kernel
theorem d_M_tellsWay_45 : decode y_M_tellsWay.2.1 45 = .ok (.bipush 20, 2) := by decide +kernel
theorem d_M_tellsWay_47 : decode y_M_tellsWay.2.1 47 = .ok (.iload_n 2, 1) := by decide +kernel
theorem d_M_tellsWay_48 : decode y_M_tellsWay.2.1 48 = .ok (.imul, 1) := by decide +kernel
theorem d_M_tellsWay_49 : decode y_M_tellsWay.2.1 49 = .ok (.iload 6, 2) := by decide +kernel
theorem d_M_tellsWay_51 : decode y_M_tellsWay.2.1 51 = .ok (.iadd, 1) := by decide +kernel
theorem d_M_tellsWay_52 : decode y_M_tellsWay.2.1 52 = .ok (.goto 11, 3) := by decide +kernel
theorem d_M_tellsWay_55 : decode y_M_tellsWay.2.1 55 = .ok (.bipush 60, 2) := by decide +kernel
theorem d_M_tellsWay_57 : decode y_M_tellsWay.2.1 57 = .ok (.iload 6, 2) := by decide +kernel
theorem d_M_tellsWay_59 : decode y_M_tellsWay.2.1 59 = .ok (.iadd, 1) := by decide +kernel
theorem d_M_tellsWay_60 : decode y_M_tellsWay.2.1 60 = .ok (.bipush 12, 2) := by decide +kernel
theorem d_M_tellsWay_62 : decode y_M_tellsWay.2.1 62 = .ok (.isub, 1) := by decide +kernel
theorem d_M_tellsWay_63 : decode y_M_tellsWay.2.1 63 = .ok (.iastore, 1) := by decide +kernel
theorem d_M_tellsWay_64 : decode y_M_tellsWay.2.1 64 = .ok (.aload_n 0, 1) := by decide +kernel
theorem d_M_tellsWay_65 : decode y_M_tellsWay.2.1 65 = .ok (.getfield 355, 3) := by decide +kernel
theorem d_M_tellsWay_68 : decode y_M_tellsWay.2.1 68 = .ok (.iload 4, 2) := by decide +kernel
theorem d_M_tellsWay_70 : decode y_M_tellsWay.2.1 70 = .ok (.iaload, 1) := by decide +kernel
theorem d_M_tellsWay_71 : decode y_M_tellsWay.2.1 71 = .ok (.bipush 24, 2) := by decide +kernel
theorem d_M_tellsWay_73 : decode y_M_tellsWay.2.1 73 = .ok (.idiv, 1) := by decide +kernel
theorem d_M_tellsWay_74 : decode y_M_tellsWay.2.1 74 = .ok (.istore 4, 2) := by decide +kernel
theorem d_M_tellsWay_76 : decode y_M_tellsWay.2.1 76 = .ok (.iinc 5 (-1), 3) := by decide +kernel
theorem d_M_tellsWay_79 : decode y_M_tellsWay.2.1 79 = .ok (.goto (-64), 3) := by decide +kernel
theorem d_M_tellsWay_82 : decode y_M_tellsWay.2.1 82 = .ok (.aload_n 0, 1) := by decide +kernel
theorem d_M_tellsWay_83 : decode y_M_tellsWay.2.1 83 = .ok (.iconst 0, 1) := by decide +kernel
theorem d_M_tellsWay_84 : decode y_M_tellsWay.2.1 84 = .ok (.putfield 11, 3) := by decide +kernel
theorem d_M_tellsWay_87 : decode y_M_tellsWay.2.1 87 = .ok (.iconst 0, 1) := by decide +kernel
theorem d_M_tellsWay_88 : decode y_M_tellsWay.2.1 88 = .ok (.istore 5, 2) := by decide +kernel
theorem d_M_tellsWay_90 : decode y_M_tellsWay.2.1 90 = .ok (.iload 5, 2) := by decide +kernel
theorem d_M_tellsWay_92 : decode y_M_tellsWay.2.1 92 = .ok (.iload_n 3, 1) := by decide +kernel
theorem d_M_tellsWay_93 : decode y_M_tellsWay.2.1 93 = .ok (.if_icmp .ge 27, 3) := by decide +kernel
theorem d_M_tellsWay_96 : decode y_M_tellsWay.2.1 96 = .ok (.iload 5, 2) := by decide +kernel
theorem d_M_tellsWay_98 : decode y_M_tellsWay.2.1 98 = .ok (.bipush 10, 2) := by decide +kernel
theorem d_M_tellsWay_100 : decode y_M_tellsWay.2.1 100 = .ok (.if_icmp .ge 20, 3) := by decide +kernel
theorem d_M_tellsWay_103 : decode y_M_tellsWay.2.1 103 = .ok (.aload_n 0, 1) := by decide +kernel
theorem d_M_tellsWay_104 : decode y_M_tellsWay.2.1 104 = .ok (.aload_n 0, 1) := by decide +kernel
theorem d_M_tellsWay_105 : decode y_M_tellsWay.2.1 105 = .ok (.getfield 370, 3) := by decide +kernel
theorem d_M_tellsWay_108 : decode y_M_tellsWay.2.1 108 = .ok (.iload 5, 2) := by decide +kernel
theorem d_M_tellsWay_110 : decode y_M_tellsWay.2.1 110 = .ok (.iaload, 1) := by decide +kernel
theorem d_M_tellsWay_111 : decode y_M_tellsWay.2.1 111 = .ok (.invokevirtual 236, 3) := by decide +kernel
theorem d_M_tellsWay_114 : decode y_M_tellsWay.2.1 114 = .ok (.iinc 5 1, 3) := by decide +kernel
theorem d_M_tellsWay_117 : decode y_M_tellsWay.2.1 117 = .ok (.goto (-27), 3) := by decide +kernel
theorem d_M_tellsWay_120 : decode y_M_tellsWay.2.1 120 = .ok (.return_, 1) := by decide +kernel
theorem d_M_together_0 : decode y_M_together.2.1 0 = .ok (.aload_n 0, 1) := by decide +kernel
theorem d_M_together_1 : decode y_M_together.2.1 1 = .ok (.iconst 0, 1) := by decide +kernel
theorem d_M_together_2 : decode y_M_together.2.1 2 = .ok (.putfield 3, 3) := by decide +kernel
theorem d_M_together_5 : decode y_M_together.2.1 5 = .ok (.iload_n 1, 1) := by decide +kernel
theorem d_M_together_6 : decode y_M_together.2.1 6 = .ok (.invokestatic 194, 3) := by decide +kernel
theorem d_M_together_9 : decode y_M_together.2.1 9 = .ok (.ifCond .eq 11, 3) := by decide +kernel
theorem d_M_together_12 : decode y_M_together.2.1 12 = .ok (.aload_n 0, 1) := by decide +kernel
theorem d_M_together_13 : decode y_M_together.2.1 13 = .ok (.iload_n 2, 1) := by decide +kernel
theorem d_M_together_14 : decode y_M_together.2.1 14 = .ok (.invokevirtual 239, 3) := by decide +kernel
theorem d_M_together_17 : decode y_M_together.2.1 17 = .ok (.ifCond .ne 5, 3) := by decide +kernel
theorem d_M_together_20 : decode y_M_together.2.1 20 = .ok (.iconst (-1), 1) := by decide +kernel
theorem d_M_together_21 : decode y_M_together.2.1 21 = .ok (.ireturn, 1) := by decide +kernel
theorem d_M_together_22 : decode y_M_together.2.1 22 = .ok (.aload_n 0, 1) := by decide +kernel
theorem d_M_together_23 : decode y_M_together.2.1 23 = .ok (.iload_n 1, 1) := by decide +kernel
theorem d_M_together_24 : decode y_M_together.2.1 24 = .ok (.invokevirtual 361, 3) := by decide +kernel
theorem d_M_together_27 : decode y_M_together.2.1 27 = .ok (.aload_n 0, 1) := by decide +kernel
theorem d_M_together_28 : decode y_M_together.2.1 28 = .ok (.iconst 0, 1) := by decide +kernel
theorem d_M_together_29 : decode y_M_together.2.1 29 = .ok (.invokevirtual 364, 3) := by decide +kernel
theorem d_M_together_32 : decode y_M_together.2.1 32 = .ok (.iconst 0, 1) := by decide +kernel
theorem d_M_together_33 : decode y_M_together.2.1 33 = .ok (.istore_n 3, 1) := by decide +kernel
theorem d_M_together_34 : decode y_M_together.2.1 34 = .ok (.iload_n 3, 1) := by decide +kernel
theorem d_M_together_35 : decode y_M_together.2.1 35 = .ok (.aload_n 0, 1) := by decide +kernel
theorem d_M_together_36 : decode y_M_together.2.1 36 = .ok (.getfield 352, 3) := by decide +kernel
theorem d_M_together_39 : decode y_M_together.2.1 39 = .ok (.if_icmp .ge 45, 3) := by decide +kernel
theorem d_M_together_42 : decode y_M_together.2.1 42 = .ok (.iload_n 2, 1) := by decide +kernel
theorem d_M_together_43 : decode y_M_together.2.1 43 = .ok (.aload_n 0, 1) := by decide +kernel
theorem d_M_together_44 : decode y_M_together.2.1 44 = .ok (.getfield 349, 3) := by decide +kernel
theorem d_M_together_47 : decode y_M_together.2.1 47 = .ok (.iload_n 3, 1) := by decide +kernel
theorem d_M_together_48 : decode y_M_together.2.1 48 = .ok (.iaload, 1) := by decide +kernel
theorem d_M_together_49 : decode y_M_together.2.1 49 = .ok (.iconst (-1), 1) := by decide +kernel
theorem d_M_together_50 : decode y_M_together.2.1 50 = .ok (.ixor, 1) := by decide +kernel
theorem d_M_together_51 : decode y_M_together.2.1 51 = .ok (.iand, 1) := by decide +kernel
theorem d_M_together_52 : decode y_M_together.2.1 52 = .ok (.ifCond .ne 26, 3) := by decide +kernel
theorem d_M_together_55 : decode y_M_together.2.1 55 = .ok (.aload_n 0, 1) := by decide +kernel
theorem d_M_together_56 : decode y_M_together.2.1 56 = .ok (.aload_n 0, 1) := by decide +kernel
theorem d_M_together_57 : decode y_M_together.2.1 57 = .ok (.getfield 349, 3) := by decide +kernel
theorem d_M_together_60 : decode y_M_together.2.1 60 = .ok (.iload_n 3, 1) := by decide +kernel
theorem d_M_together_61 : decode y_M_together.2.1 61 = .ok (.iaload, 1) := by decide +kernel
theorem d_M_together_62 : decode y_M_together.2.1 62 = .ok (.iload_n 1, 1) := by decide +kernel
theorem d_M_together_63 : decode y_M_together.2.1 63 = .ok (.invokevirtual 373, 3) := by decide +kernel
theorem d_M_together_66 : decode y_M_together.2.1 66 = .ok (.aload_n 0, 1) := by decide +kernel
theorem d_M_together_67 : decode y_M_together.2.1 67 = .ok (.getfield 346, 3) := by decide +kernel
theorem d_M_together_70 : decode y_M_together.2.1 70 = .ok (.aload_n 0, 1) := by decide +kernel
theorem d_M_together_71 : decode y_M_together.2.1 71 = .ok (.getfield 349, 3) := by decide +kernel
theorem d_M_together_74 : decode y_M_together.2.1 74 = .ok (.iload_n 3, 1) := by decide +kernel
theorem d_M_together_75 : decode y_M_together.2.1 75 = .ok (.iaload, 1) := by decide +kernel
theorem d_M_together_76 : decode y_M_together.2.1 76 = .ok (.iaload, 1) := by decide +kernel
theorem d_M_together_77 : decode y_M_together.2.1 77 = .ok (.ireturn, 1) := by decide +kernel
theorem d_M_together_78 : decode y_M_together.2.1 78 = .ok (.iinc 3 1, 3) := by decide +kernel
theorem d_M_together_81 : decode y_M_together.2.1 81 = .ok (.goto (-47), 3) := by decide +kernel
theorem d_M_together_84 : decode y_M_together.2.1 84 = .ok (.bipush (-2), 2) := by decide +kernel
theorem d_M_together_86 : decode y_M_together.2.1 86 = .ok (.ireturn, 1) := by decide +kernel
theorem d_M_frees_0 : decode y_M_frees.2.1 0 = .ok (.aload_n 0, 1) := by decide +kernel
theorem d_M_frees_1 : decode y_M_frees.2.1 1 = .ok (.iconst 0, 1) := by decide +kernel
theorem d_M_frees_2 : decode y_M_frees.2.1 2 = .ok (.putfield 3, 3) := by decide +kernel
theorem d_M_frees_5 : decode y_M_frees.2.1 5 = .ok (.iload_n 1, 1) := by decide +kernel
theorem d_M_frees_6 : decode y_M_frees.2.1 6 = .ok (.invokestatic 194, 3) := by decide +kernel
theorem d_M_frees_9 : decode y_M_frees.2.1 9 = .ok (.ifCond .ne 5, 3) := by decide +kernel
theorem d_M_frees_12 : decode y_M_frees.2.1 12 = .ok (.iconst (-1), 1) := by decide +kernel
theorem d_M_frees_13 : decode y_M_frees.2.1 13 = .ok (.ireturn, 1) := by decide +kernel
theorem d_M_frees_14 : decode y_M_frees.2.1 14 = .ok (.bipush (-2), 2) := by decide +kernel
theorem d_M_frees_16 : decode y_M_frees.2.1 16 = .ok (.istore_n 2, 1) := by decide +kernel
theorem d_M_frees_17 : decode y_M_frees.2.1 17 = .ok (.iconst 0, 1) := by decide +kernel
theorem d_M_frees_18 : decode y_M_frees.2.1 18 = .ok (.istore_n 3, 1) := by decide +kernel
theorem d_M_frees_19 : decode y_M_frees.2.1 19 = .ok (.iconst 0, 1) := by decide +kernel
theorem d_M_frees_20 : decode y_M_frees.2.1 20 = .ok (.istore 4, 2) := by decide +kernel
theorem d_M_frees_22 : decode y_M_frees.2.1 22 = .ok (.iload 4, 2) := by decide +kernel
theorem d_M_frees_24 : decode y_M_frees.2.1 24 = .ok (.aload_n 0, 1) := by decide +kernel
theorem d_M_frees_25 : decode y_M_frees.2.1 25 = .ok (.getfield 14, 3) := by decide +kernel
theorem d_M_frees_28 : decode y_M_frees.2.1 28 = .ok (.if_icmp .ge 125, 3) := by decide +kernel
theorem d_M_frees_31 : decode y_M_frees.2.1 31 = .ok (.iconst 0, 1) := by decide +kernel
theorem d_M_frees_32 : decode y_M_frees.2.1 32 = .ok (.istore 5, 2) := by decide +kernel
theorem d_M_frees_34 : decode y_M_frees.2.1 34 = .ok (.iconst 0, 1) := by decide +kernel
theorem d_M_frees_35 : decode y_M_frees.2.1 35 = .ok (.istore 6, 2) := by decide +kernel
theorem d_M_frees_37 : decode y_M_frees.2.1 37 = .ok (.iload 6, 2) := by decide +kernel
theorem d_M_frees_39 : decode y_M_frees.2.1 39 = .ok (.aload_n 0, 1) := by decide +kernel
theorem d_M_frees_40 : decode y_M_frees.2.1 40 = .ok (.getfield 14, 3) := by decide +kernel
theorem d_M_frees_43 : decode y_M_frees.2.1 43 = .ok (.if_icmp .ge 82, 3) := by decide +kernel
theorem d_M_frees_46 : decode y_M_frees.2.1 46 = .ok (.iload 6, 2) := by decide +kernel
theorem d_M_frees_48 : decode y_M_frees.2.1 48 = .ok (.iload 4, 2) := by decide +kernel
theorem d_M_frees_50 : decode y_M_frees.2.1 50 = .ok (.if_icmp .eq 48, 3) := by decide +kernel
theorem d_M_frees_53 : decode y_M_frees.2.1 53 = .ok (.aload_n 0, 1) := by decide +kernel
theorem d_M_frees_54 : decode y_M_frees.2.1 54 = .ok (.getfield 199, 3) := by decide +kernel
theorem d_M_frees_57 : decode y_M_frees.2.1 57 = .ok (.iload_n 1, 1) := by decide +kernel
theorem d_M_frees_58 : decode y_M_frees.2.1 58 = .ok (.iaload, 1) := by decide +kernel
theorem d_M_frees_59 : decode y_M_frees.2.1 59 = .ok (.iconst 1, 1) := by decide +kernel
theorem d_M_frees_60 : decode y_M_frees.2.1 60 = .ok (.if_icmp .le 38, 3) := by decide +kernel
theorem d_M_frees_63 : decode y_M_frees.2.1 63 = .ok (.aload_n 0, 1) := by decide +kernel
theorem d_M_frees_64 : decode y_M_frees.2.1 64 = .ok (.getfield 176, 3) := by decide +kernel
theorem d_M_frees_67 : decode y_M_frees.2.1 67 = .ok (.iload 6, 2) := by decide +kernel
theorem d_M_frees_69 : decode y_M_frees.2.1 69 = .ok (.iaload, 1) := by decide +kernel
theorem d_M_frees_70 : decode y_M_frees.2.1 70 = .ok (.aload_n 0, 1) := by decide +kernel
theorem d_M_frees_71 : decode y_M_frees.2.1 71 = .ok (.getfield 173, 3) := by decide +kernel
theorem d_M_frees_74 : decode y_M_frees.2.1 74 = .ok (.iload 6, 2) := by decide +kernel
theorem d_M_frees_76 : decode y_M_frees.2.1 76 = .ok (.iaload, 1) := by decide +kernel
theorem d_M_frees_77 : decode y_M_frees.2.1 77 = .ok (.if_icmp .ge 21, 3) := by decide +kernel
theorem d_M_frees_80 : decode y_M_frees.2.1 80 = .ok (.aload_n 0, 1) := by decide +kernel
theorem d_M_frees_81 : decode y_M_frees.2.1 81 = .ok (.iload 6, 2) := by decide +kernel
theorem d_M_frees_83 : decode y_M_frees.2.1 83 = .ok (.iload_n 1, 1) := by decide +kernel
theorem d_M_frees_84 : decode y_M_frees.2.1 84 = .ok (.iconst 1, 1) := by decide +kernel
theorem d_M_frees_85 : decode y_M_frees.2.1 85 = .ok (.iload 4, 2) := by decide +kernel
theorem d_M_frees_87 : decode y_M_frees.2.1 87 = .ok (.ishl, 1) := by decide +kernel
theorem d_M_frees_88 : decode y_M_frees.2.1 88 = .ok (.invokevirtual 150, 3) := by decide +kernel
theorem d_M_frees_91 : decode y_M_frees.2.1 91 = .ok (.ifCond .eq 7, 3) := by decide +kernel
theorem d_M_frees_94 : decode y_M_frees.2.1 94 = .ok (.iconst 1, 1) := by decide +kernel
theorem d_M_frees_95 : decode y_M_frees.2.1 95 = .ok (.goto 4, 3) := by decide +kernel
theorem d_M_frees_98 : decode y_M_frees.2.1 98 = .ok (.iconst 0, 1) := by decide +kernel
theorem d_M_frees_99 : decode y_M_frees.2.1 99 = .ok (.istore 7, 2) := by decide +kernel
theorem d_M_frees_101 : decode y_M_frees.2.1 101 = .ok (.iload 5, 2) := by decide +kernel
theorem d_M_frees_103 : decode y_M_frees.2.1 103 = .ok (.iload 7, 2) := by decide +kernel
theorem d_M_frees_105 : decode y_M_frees.2.1 105 = .ok (.ifCond .eq 10, 3) := by decide +kernel
theorem d_M_frees_108 : decode y_M_frees.2.1 108 = .ok (.iconst 1, 1) := by decide +kernel
theorem d_M_frees_109 : decode y_M_frees.2.1 109 = .ok (.iload 6, 2) := by decide +kernel
theorem d_M_frees_111 : decode y_M_frees.2.1 111 = .ok (.ishl, 1) := by decide +kernel
theorem d_M_frees_112 : decode y_M_frees.2.1 112 = .ok (.goto 4, 3) := by decide +kernel
theorem d_M_frees_115 : decode y_M_frees.2.1 115 = .ok (.iconst 0, 1) := by decide +kernel
theorem d_M_frees_116 : decode y_M_frees.2.1 116 = .ok (.ior, 1) := by decide +kernel
theorem d_M_frees_117 : decode y_M_frees.2.1 117 = .ok (.istore 5, 2) := by decide +kernel
theorem d_M_frees_119 : decode y_M_frees.2.1 119 = .ok (.iinc 6 1, 3) := by decide +kernel
theorem d_M_frees_122 : decode y_M_frees.2.1 122 = .ok (.goto (-85), 3) := by decide +kernel
theorem d_M_frees_125 : decode y_M_frees.2.1 125 = .ok (.iload_n 2, 1) := by decide +kernel
theorem d_M_frees_126 : decode y_M_frees.2.1 126 = .ok (.ifCond .lt 15, 3) := by decide +kernel
theorem d_M_frees_129 : decode y_M_frees.2.1 129 = .ok (.iload 5, 2) := by decide +kernel
theorem d_M_frees_131 : decode y_M_frees.2.1 131 = .ok (.invokestatic 118, 3) := by decide +kernel
theorem d_M_frees_134 : decode y_M_frees.2.1 134 = .ok (.iload_n 3, 1) := by decide +kernel
theorem d_M_frees_135 : decode y_M_frees.2.1 135 = .ok (.invokestatic 118, 3) := by decide +kernel
theorem d_M_frees_138 : decode y_M_frees.2.1 138 = .ok (.if_icmp .le 9, 3) := by decide +kernel
theorem d_M_frees_141 : decode y_M_frees.2.1 141 = .ok (.iload 4, 2) := by decide +kernel
theorem d_M_frees_143 : decode y_M_frees.2.1 143 = .ok (.istore_n 2, 1) := by decide +kernel
theorem d_M_frees_144 : decode y_M_frees.2.1 144 = .ok (.iload 5, 2) := by decide +kernel
theorem d_M_frees_146 : decode y_M_frees.2.1 146 = .ok (.istore_n 3, 1) := by decide +kernel
theorem d_M_frees_147 : decode y_M_frees.2.1 147 = .ok (.iinc 4 1, 3) := by decide +kernel
theorem d_M_frees_150 : decode y_M_frees.2.1 150 = .ok (.goto (-128), 3) := by decide +kernel
theorem d_M_frees_153 : decode y_M_frees.2.1 153 = .ok (.iload_n 2, 1) := by decide +kernel
theorem d_M_frees_154 : decode y_M_frees.2.1 154 = .ok (.ifCond .ge 6, 3) := by decide +kernel
theorem d_M_frees_157 : decode y_M_frees.2.1 157 = .ok (.bipush (-2), 2) := by decide +kernel
theorem d_M_frees_159 : decode y_M_frees.2.1 159 = .ok (.ireturn, 1) := by decide +kernel
theorem d_M_frees_160 : decode y_M_frees.2.1 160 = .ok (.aload_n 0, 1) := by decide +kernel
theorem d_M_frees_161 : decode y_M_frees.2.1 161 = .ok (.iconst 0, 1) := by decide +kernel
theorem d_M_frees_162 : decode y_M_frees.2.1 162 = .ok (.putfield 11, 3) := by decide +kernel
theorem d_M_frees_165 : decode y_M_frees.2.1 165 = .ok (.aload_n 0, 1) := by decide +kernel
theorem d_M_frees_166 : decode y_M_frees.2.1 166 = .ok (.iload_n 3, 1) := by decide +kernel
theorem d_M_frees_167 : decode y_M_frees.2.1 167 = .ok (.invokestatic 118, 3) := by decide +kernel
theorem d_M_frees_170 : decode y_M_frees.2.1 170 = .ok (.invokevirtual 236, 3) := by decide +kernel
theorem d_M_frees_173 : decode y_M_frees.2.1 173 = .ok (.aload_n 0, 1) := by decide +kernel
theorem d_M_frees_174 : decode y_M_frees.2.1 174 = .ok (.iload_n 3, 1) := by decide +kernel
theorem d_M_frees_175 : decode y_M_frees.2.1 175 = .ok (.invokevirtual 236, 3) := by decide +kernel
theorem d_M_frees_178 : decode y_M_frees.2.1 178 = .ok (.iload_n 2, 1) := by decide +kernel
theorem d_M_frees_179 : decode y_M_frees.2.1 179 = .ok (.ireturn, 1) := by decide +kernel
theorem d_M_everAll_0 : decode y_M_everAll.2.1 0 = .ok (.iconst 0, 1) := by decide +kernel
theorem d_M_everAll_1 : decode y_M_everAll.2.1 1 = .ok (.istore_n 1, 1) := by decide +kernel
theorem d_M_everAll_2 : decode y_M_everAll.2.1 2 = .ok (.iload_n 1, 1) := by decide +kernel
theorem d_M_everAll_3 : decode y_M_everAll.2.1 3 = .ok (.iconst 1, 1) := by decide +kernel
theorem d_M_everAll_4 : decode y_M_everAll.2.1 4 = .ok (.aload_n 0, 1) := by decide +kernel
theorem d_M_everAll_5 : decode y_M_everAll.2.1 5 = .ok (.getfield 14, 3) := by decide +kernel
theorem d_M_everAll_8 : decode y_M_everAll.2.1 8 = .ok (.ishl, 1) := by decide +kernel
theorem d_M_everAll_9 : decode y_M_everAll.2.1 9 = .ok (.if_icmp .ge 16, 3) := by decide +kernel
theorem d_M_everAll_12 : decode y_M_everAll.2.1 12 = .ok (.aload_n 0, 1) := by decide +kernel
theorem d_M_everAll_13 : decode y_M_everAll.2.1 13 = .ok (.getfield 376, 3) := by decide +kernel
theorem d_M_everAll_16 : decode y_M_everAll.2.1 16 = .ok (.iload_n 1, 1) := by decide +kernel
theorem d_M_everAll_17 : decode y_M_everAll.2.1 17 = .ok (.iload_n 1, 1) := by decide +kernel
theorem d_M_everAll_18 : decode y_M_everAll.2.1 18 = .ok (.iastore, 1) := by decide +kernel
theorem d_M_everAll_19 : decode y_M_everAll.2.1 19 = .ok (.iinc 1 1, 3) := by decide +kernel
theorem d_M_everAll_22 : decode y_M_everAll.2.1 22 = .ok (.goto (-20), 3) := by decide +kernel
theorem d_M_everAll_25 : decode y_M_everAll.2.1 25 = .ok (.iconst 1, 1) := by decide +kernel
theorem d_M_everAll_26 : decode y_M_everAll.2.1 26 = .ok (.istore_n 1, 1) := by decide +kernel
theorem d_M_everAll_27 : decode y_M_everAll.2.1 27 = .ok (.iload_n 1, 1) := by decide +kernel
theorem d_M_everAll_28 : decode y_M_everAll.2.1 28 = .ok (.ifCond .eq 120, 3) := by decide +kernel
theorem d_M_everAll_31 : decode y_M_everAll.2.1 31 = .ok (.iconst 0, 1) := by decide +kernel
theorem d_M_everAll_32 : decode y_M_everAll.2.1 32 = .ok (.istore_n 1, 1) := by decide +kernel
theorem d_M_everAll_33 : decode y_M_everAll.2.1 33 = .ok (.iconst 0, 1) := by decide +kernel
theorem d_M_everAll_34 : decode y_M_everAll.2.1 34 = .ok (.istore_n 2, 1) := by decide +kernel
theorem d_M_everAll_35 : decode y_M_everAll.2.1 35 = .ok (.iload_n 2, 1) := by decide +kernel
theorem d_M_everAll_36 : decode y_M_everAll.2.1 36 = .ok (.iconst 1, 1) := by decide +kernel
theorem d_M_everAll_37 : decode y_M_everAll.2.1 37 = .ok (.aload_n 0, 1) := by decide +kernel
theorem d_M_everAll_38 : decode y_M_everAll.2.1 38 = .ok (.getfield 14, 3) := by decide +kernel
theorem d_M_everAll_41 : decode y_M_everAll.2.1 41 = .ok (.ishl, 1) := by decide +kernel
theorem d_M_everAll_42 : decode y_M_everAll.2.1 42 = .ok (.if_icmp .ge 103, 3) := by decide +kernel
theorem d_M_everAll_45 : decode y_M_everAll.2.1 45 = .ok (.aload_n 0, 1) := by decide +kernel
theorem d_M_everAll_46 : decode y_M_everAll.2.1 46 = .ok (.getfield 376, 3) := by decide +kernel
theorem d_M_everAll_49 : decode y_M_everAll.2.1 49 = .ok (.iload_n 2, 1) := by decide +kernel
theorem d_M_everAll_50 : decode y_M_everAll.2.1 50 = .ok (.iaload, 1) := by decide +kernel
theorem d_M_everAll_51 : decode y_M_everAll.2.1 51 = .ok (.istore_n 3, 1) := by decide +kernel
theorem d_M_everAll_52 : decode y_M_everAll.2.1 52 = .ok (.iconst 0, 1) := by decide +kernel
theorem d_M_everAll_53 : decode y_M_everAll.2.1 53 = .ok (.istore 4, 2) := by decide +kernel
theorem d_M_everAll_55 : decode y_M_everAll.2.1 55 = .ok (.iload 4, 2) := by decide +kernel
theorem d_M_everAll_57 : decode y_M_everAll.2.1 57 = .ok (.bipush 24, 2) := by decide +kernel
theorem d_M_everAll_59 : decode y_M_everAll.2.1 59 = .ok (.if_icmp .ge 53, 3) := by decide +kernel
theorem d_M_everAll_62 : decode y_M_everAll.2.1 62 = .ok (.iload 4, 2) := by decide +kernel
theorem d_M_everAll_64 : decode y_M_everAll.2.1 64 = .ok (.bipush 12, 2) := by decide +kernel
theorem d_M_everAll_66 : decode y_M_everAll.2.1 66 = .ok (.irem, 1) := by decide +kernel
theorem d_M_everAll_67 : decode y_M_everAll.2.1 67 = .ok (.aload_n 0, 1) := by decide +kernel
theorem d_M_everAll_68 : decode y_M_everAll.2.1 68 = .ok (.getfield 14, 3) := by decide +kernel
theorem d_M_everAll_71 : decode y_M_everAll.2.1 71 = .ok (.if_icmp .ge 13, 3) := by decide +kernel
theorem d_M_everAll_74 : decode y_M_everAll.2.1 74 = .ok (.aload_n 0, 1) := by decide +kernel
theorem d_M_everAll_75 : decode y_M_everAll.2.1 75 = .ok (.iload_n 2, 1) := by decide +kernel
theorem d_M_everAll_76 : decode y_M_everAll.2.1 76 = .ok (.iload 4, 2) := by decide +kernel
theorem d_M_everAll_78 : decode y_M_everAll.2.1 78 = .ok (.invokevirtual 358, 3) := by decide +kernel
theorem d_M_everAll_81 : decode y_M_everAll.2.1 81 = .ok (.goto 4, 3) := by decide +kernel
theorem d_M_everAll_84 : decode y_M_everAll.2.1 84 = .ok (.iconst (-1), 1) := by decide +kernel
theorem d_M_everAll_85 : decode y_M_everAll.2.1 85 = .ok (.istore 5, 2) := by decide +kernel
theorem d_M_everAll_87 : decode y_M_everAll.2.1 87 = .ok (.iload_n 3, 1) := by decide +kernel
theorem d_M_everAll_88 : decode y_M_everAll.2.1 88 = .ok (.iload 5, 2) := by decide +kernel
theorem d_M_everAll_90 : decode y_M_everAll.2.1 90 = .ok (.ifCond .lt 13, 3) := by decide +kernel
theorem d_M_everAll_93 : decode y_M_everAll.2.1 93 = .ok (.aload_n 0, 1) := by decide +kernel
theorem d_M_everAll_94 : decode y_M_everAll.2.1 94 = .ok (.getfield 376, 3) := by decide +kernel
theorem d_M_everAll_97 : decode y_M_everAll.2.1 97 = .ok (.iload 5, 2) := by decide +kernel
theorem d_M_everAll_99 : decode y_M_everAll.2.1 99 = .ok (.iaload, 1) := by decide +kernel
theorem d_M_everAll_100 : decode y_M_everAll.2.1 100 = .ok (.goto 4, 3) := by decide +kernel
theorem d_M_everAll_103 : decode y_M_everAll.2.1 103 = .ok (.iconst 0, 1) := by decide +kernel
theorem d_M_everAll_104 : decode y_M_everAll.2.1 104 = .ok (.ior, 1) := by decide +kernel
theorem d_M_everAll_105 : decode y_M_everAll.2.1 105 = .ok (.istore_n 3, 1) := by decide +kernel
theorem d_M_everAll_106 : decode y_M_everAll.2.1 106 = .ok (.iinc 4 1, 3) := by decide +kernel
theorem d_M_everAll_109 : decode y_M_everAll.2.1 109 = .ok (.goto (-54), 3) := by decide +kernel
theorem d_M_everAll_112 : decode y_M_everAll.2.1 112 = .ok (.iload_n 1, 1) := by decide +kernel
theorem d_M_everAll_113 : decode y_M_everAll.2.1 113 = .ok (.ifCond .ne 13, 3) := by decide +kernel
theorem d_M_everAll_116 : decode y_M_everAll.2.1 116 = .ok (.iload_n 3, 1) := by decide +kernel
theorem d_M_everAll_117 : decode y_M_everAll.2.1 117 = .ok (.aload_n 0, 1) := by decide +kernel
theorem d_M_everAll_118 : decode y_M_everAll.2.1 118 = .ok (.getfield 376, 3) := by decide +kernel
theorem d_M_everAll_121 : decode y_M_everAll.2.1 121 = .ok (.iload_n 2, 1) := by decide +kernel
theorem d_M_everAll_122 : decode y_M_everAll.2.1 122 = .ok (.iaload, 1) := by decide +kernel
theorem d_M_everAll_123 : decode y_M_everAll.2.1 123 = .ok (.if_icmp .eq 7, 3) := by decide +kernel
theorem d_M_everAll_126 : decode y_M_everAll.2.1 126 = .ok (.iconst 1, 1) := by decide +kernel
theorem d_M_everAll_127 : decode y_M_everAll.2.1 127 = .ok (.goto 4, 3) := by decide +kernel
theorem d_M_everAll_130 : decode y_M_everAll.2.1 130 = .ok (.iconst 0, 1) := by decide +kernel
theorem d_M_everAll_131 : decode y_M_everAll.2.1 131 = .ok (.istore_n 1, 1) := by decide +kernel
theorem d_M_everAll_132 : decode y_M_everAll.2.1 132 = .ok (.aload_n 0, 1) := by decide +kernel
theorem d_M_everAll_133 : decode y_M_everAll.2.1 133 = .ok (.getfield 376, 3) := by decide +kernel
theorem d_M_everAll_136 : decode y_M_everAll.2.1 136 = .ok (.iload_n 2, 1) := by decide +kernel
theorem d_M_everAll_137 : decode y_M_everAll.2.1 137 = .ok (.iload_n 3, 1) := by decide +kernel
theorem d_M_everAll_138 : decode y_M_everAll.2.1 138 = .ok (.iastore, 1) := by decide +kernel
theorem d_M_everAll_139 : decode y_M_everAll.2.1 139 = .ok (.iinc 2 1, 3) := by decide +kernel
theorem d_M_everAll_142 : decode y_M_everAll.2.1 142 = .ok (.goto (-107), 3) := by decide +kernel
theorem d_M_everAll_145 : decode y_M_everAll.2.1 145 = .ok (.goto (-118), 3) := by decide +kernel
theorem d_M_everAll_148 : decode y_M_everAll.2.1 148 = .ok (.return_, 1) := by decide +kernel
theorem d_M_keeps_0 : decode y_M_keeps.2.1 0 = .ok (.aload_n 0, 1) := by decide +kernel
theorem d_M_keeps_1 : decode y_M_keeps.2.1 1 = .ok (.iconst 0, 1) := by decide +kernel
theorem d_M_keeps_2 : decode y_M_keeps.2.1 2 = .ok (.putfield 3, 3) := by decide +kernel
theorem d_M_keeps_5 : decode y_M_keeps.2.1 5 = .ok (.iload_n 1, 1) := by decide +kernel
theorem d_M_keeps_6 : decode y_M_keeps.2.1 6 = .ok (.invokestatic 194, 3) := by decide +kernel
theorem d_M_keeps_9 : decode y_M_keeps.2.1 9 = .ok (.ifCond .eq 11, 3) := by decide +kernel
theorem d_M_keeps_12 : decode y_M_keeps.2.1 12 = .ok (.aload_n 0, 1) := by decide +kernel
theorem d_M_keeps_13 : decode y_M_keeps.2.1 13 = .ok (.iload_n 2, 1) := by decide +kernel
theorem d_M_keeps_14 : decode y_M_keeps.2.1 14 = .ok (.invokevirtual 239, 3) := by decide +kernel
theorem d_M_keeps_17 : decode y_M_keeps.2.1 17 = .ok (.ifCond .ne 5, 3) := by decide +kernel
theorem d_M_keeps_20 : decode y_M_keeps.2.1 20 = .ok (.iconst (-1), 1) := by decide +kernel
theorem d_M_keeps_21 : decode y_M_keeps.2.1 21 = .ok (.ireturn, 1) := by decide +kernel
theorem d_M_keeps_22 : decode y_M_keeps.2.1 22 = .ok (.aload_n 0, 1) := by decide +kernel
theorem d_M_keeps_23 : decode y_M_keeps.2.1 23 = .ok (.iload_n 1, 1) := by decide +kernel
theorem d_M_keeps_24 : decode y_M_keeps.2.1 24 = .ok (.invokevirtual 361, 3) := by decide +kernel
theorem d_M_keeps_27 : decode y_M_keeps.2.1 27 = .ok (.aload_n 0, 1) := by decide +kernel
theorem d_M_keeps_28 : decode y_M_keeps.2.1 28 = .ok (.invokevirtual 379, 3) := by decide +kernel
theorem d_M_keeps_31 : decode y_M_keeps.2.1 31 = .ok (.iconst (-1), 1) := by decide +kernel
theorem d_M_keeps_32 : decode y_M_keeps.2.1 32 = .ok (.istore_n 3, 1) := by decide +kernel
theorem d_M_keeps_33 : decode y_M_keeps.2.1 33 = .ok (.iconst 0, 1) := by decide +kernel
theorem d_M_keeps_34 : decode y_M_keeps.2.1 34 = .ok (.istore 4, 2) := by decide +kernel
theorem d_M_keeps_36 : decode y_M_keeps.2.1 36 = .ok (.iload 4, 2) := by decide +kernel
theorem d_M_keeps_38 : decode y_M_keeps.2.1 38 = .ok (.iconst 1, 1) := by decide +kernel
theorem d_M_keeps_39 : decode y_M_keeps.2.1 39 = .ok (.aload_n 0, 1) := by decide +kernel
theorem d_M_keeps_40 : decode y_M_keeps.2.1 40 = .ok (.getfield 14, 3) := by decide +kernel
theorem d_M_keeps_43 : decode y_M_keeps.2.1 43 = .ok (.ishl, 1) := by decide +kernel
theorem d_M_keeps_44 : decode y_M_keeps.2.1 44 = .ok (.if_icmp .ge 62, 3) := by decide +kernel
theorem d_M_keeps_47 : decode y_M_keeps.2.1 47 = .ok (.iload 4, 2) := by decide +kernel
theorem d_M_keeps_49 : decode y_M_keeps.2.1 49 = .ok (.invokestatic 118, 3) := by decide +kernel
theorem d_M_keeps_52 : decode y_M_keeps.2.1 52 = .ok (.istore 5, 2) := by decide +kernel
theorem d_M_keeps_54 : decode y_M_keeps.2.1 54 = .ok (.iload 5, 2) := by decide +kernel
theorem d_M_keeps_56 : decode y_M_keeps.2.1 56 = .ok (.aload_n 0, 1) := by decide +kernel
theorem d_M_keeps_57 : decode y_M_keeps.2.1 57 = .ok (.getfield 199, 3) := by decide +kernel
theorem d_M_keeps_60 : decode y_M_keeps.2.1 60 = .ok (.iload_n 1, 1) := by decide +kernel
theorem d_M_keeps_61 : decode y_M_keeps.2.1 61 = .ok (.iaload, 1) := by decide +kernel
theorem d_M_keeps_62 : decode y_M_keeps.2.1 62 = .ok (.if_icmp .gt 38, 3) := by decide +kernel
theorem d_M_keeps_65 : decode y_M_keeps.2.1 65 = .ok (.iload_n 3, 1) := by decide +kernel
theorem d_M_keeps_66 : decode y_M_keeps.2.1 66 = .ok (.ifCond .lt 12, 3) := by decide +kernel
theorem d_M_keeps_69 : decode y_M_keeps.2.1 69 = .ok (.iload 5, 2) := by decide +kernel
theorem d_M_keeps_71 : decode y_M_keeps.2.1 71 = .ok (.iload_n 3, 1) := by decide +kernel
theorem d_M_keeps_72 : decode y_M_keeps.2.1 72 = .ok (.invokestatic 118, 3) := by decide +kernel
theorem d_M_keeps_75 : decode y_M_keeps.2.1 75 = .ok (.if_icmp .ge 25, 3) := by decide +kernel
theorem d_M_keeps_78 : decode y_M_keeps.2.1 78 = .ok (.iload_n 2, 1) := by decide +kernel
theorem d_M_keeps_79 : decode y_M_keeps.2.1 79 = .ok (.aload_n 0, 1) := by decide +kernel
theorem d_M_keeps_80 : decode y_M_keeps.2.1 80 = .ok (.getfield 376, 3) := by decide +kernel
theorem d_M_keeps_83 : decode y_M_keeps.2.1 83 = .ok (.aload_n 0, 1) := by decide +kernel
theorem d_M_keeps_84 : decode y_M_keeps.2.1 84 = .ok (.iload_n 1, 1) := by decide +kernel
theorem d_M_keeps_85 : decode y_M_keeps.2.1 85 = .ok (.iload 4, 2) := by decide +kernel
theorem d_M_keeps_87 : decode y_M_keeps.2.1 87 = .ok (.invokevirtual 186, 3) := by decide +kernel
theorem d_M_keeps_90 : decode y_M_keeps.2.1 90 = .ok (.iaload, 1) := by decide +kernel
theorem d_M_keeps_91 : decode y_M_keeps.2.1 91 = .ok (.iconst (-1), 1) := by decide +kernel
theorem d_M_keeps_92 : decode y_M_keeps.2.1 92 = .ok (.ixor, 1) := by decide +kernel
theorem d_M_keeps_93 : decode y_M_keeps.2.1 93 = .ok (.iand, 1) := by decide +kernel
theorem d_M_keeps_94 : decode y_M_keeps.2.1 94 = .ok (.ifCond .ne 6, 3) := by decide +kernel
theorem d_M_keeps_97 : decode y_M_keeps.2.1 97 = .ok (.iload 4, 2) := by decide +kernel
theorem d_M_keeps_99 : decode y_M_keeps.2.1 99 = .ok (.istore_n 3, 1) := by decide +kernel
theorem d_M_keeps_100 : decode y_M_keeps.2.1 100 = .ok (.iinc 4 1, 3) := by decide +kernel
theorem d_M_keeps_103 : decode y_M_keeps.2.1 103 = .ok (.goto (-67), 3) := by decide +kernel
theorem d_M_keeps_106 : decode y_M_keeps.2.1 106 = .ok (.iload_n 3, 1) := by decide +kernel
theorem d_M_keeps_107 : decode y_M_keeps.2.1 107 = .ok (.ifCond .ge 6, 3) := by decide +kernel
theorem d_M_keeps_110 : decode y_M_keeps.2.1 110 = .ok (.bipush (-2), 2) := by decide +kernel
theorem d_M_keeps_112 : decode y_M_keeps.2.1 112 = .ok (.ireturn, 1) := by decide +kernel
theorem d_M_keeps_113 : decode y_M_keeps.2.1 113 = .ok (.aload_n 0, 1) := by decide +kernel
theorem d_M_keeps_114 : decode y_M_keeps.2.1 114 = .ok (.iconst 0, 1) := by decide +kernel
theorem d_M_keeps_115 : decode y_M_keeps.2.1 115 = .ok (.putfield 11, 3) := by decide +kernel
theorem d_M_keeps_118 : decode y_M_keeps.2.1 118 = .ok (.aload_n 0, 1) := by decide +kernel
theorem d_M_keeps_119 : decode y_M_keeps.2.1 119 = .ok (.iload_n 3, 1) := by decide +kernel
theorem d_M_keeps_120 : decode y_M_keeps.2.1 120 = .ok (.invokevirtual 236, 3) := by decide +kernel
theorem d_M_keeps_123 : decode y_M_keeps.2.1 123 = .ok (.iload_n 3, 1) := by decide +kernel
theorem d_M_keeps_124 : decode y_M_keeps.2.1 124 = .ok (.invokestatic 118, 3) := by decide +kernel
theorem d_M_keeps_127 : decode y_M_keeps.2.1 127 = .ok (.ireturn, 1) := by decide +kernel
theorem d_M_finish_0 : decode y_M_finish.2.1 0 = .ok (.aload_n 0, 1) := by decide +kernel
theorem d_M_finish_1 : decode y_M_finish.2.1 1 = .ok (.iconst 0, 1) := by decide +kernel
theorem d_M_finish_2 : decode y_M_finish.2.1 2 = .ok (.putfield 3, 3) := by decide +kernel
theorem d_M_finish_5 : decode y_M_finish.2.1 5 = .ok (.iload_n 1, 1) := by decide +kernel
theorem d_M_finish_6 : decode y_M_finish.2.1 6 = .ok (.invokestatic 194, 3) := by decide +kernel
theorem d_M_finish_9 : decode y_M_finish.2.1 9 = .ok (.ifCond .eq 21, 3) := by decide +kernel
theorem d_M_finish_12 : decode y_M_finish.2.1 12 = .ok (.iload_n 2, 1) := by decide +kernel
theorem d_M_finish_13 : decode y_M_finish.2.1 13 = .ok (.i2l, 1) := by decide +kernel
theorem d_M_finish_14 : decode y_M_finish.2.1 14 = .ok (.lconst 0, 1) := by decide +kernel
theorem d_M_finish_15 : decode y_M_finish.2.1 15 = .ok (.iconst 1, 1) := by decide +kernel
theorem d_M_finish_16 : decode y_M_finish.2.1 16 = .ok (.aload_n 0, 1) := by decide +kernel
theorem d_M_finish_17 : decode y_M_finish.2.1 17 = .ok (.getfield 23, 3) := by decide +kernel
theorem d_M_finish_20 : decode y_M_finish.2.1 20 = .ok (.ishl, 1) := by decide +kernel
theorem d_M_finish_21 : decode y_M_finish.2.1 21 = .ok (.iconst 1, 1) := by decide +kernel
theorem d_M_finish_22 : decode y_M_finish.2.1 22 = .ok (.isub, 1) := by decide +kernel
theorem d_M_finish_23 : decode y_M_finish.2.1 23 = .ok (.i2l, 1) := by decide +kernel
theorem d_M_finish_24 : decode y_M_finish.2.1 24 = .ok (.invokestatic 17, 3) := by decide +kernel
theorem d_M_finish_27 : decode y_M_finish.2.1 27 = .ok (.ifCond .ne 5, 3) := by decide +kernel
theorem d_M_finish_30 : decode y_M_finish.2.1 30 = .ok (.iconst (-1), 1) := by decide +kernel
theorem d_M_finish_31 : decode y_M_finish.2.1 31 = .ok (.ireturn, 1) := by decide +kernel
theorem d_M_finish_32 : decode y_M_finish.2.1 32 = .ok (.iconst 0, 1) := by decide +kernel
theorem d_M_finish_33 : decode y_M_finish.2.1 33 = .ok (.istore_n 3, 1) := by decide +kernel
theorem d_M_finish_34 : decode y_M_finish.2.1 34 = .ok (.iconst 0, 1) := by decide +kernel
theorem d_M_finish_35 : decode y_M_finish.2.1 35 = .ok (.istore 4, 2) := by decide +kernel
theorem d_M_finish_37 : decode y_M_finish.2.1 37 = .ok (.iload 4, 2) := by decide +kernel
theorem d_M_finish_39 : decode y_M_finish.2.1 39 = .ok (.aload_n 0, 1) := by decide +kernel
theorem d_M_finish_40 : decode y_M_finish.2.1 40 = .ok (.getfield 23, 3) := by decide +kernel
theorem d_M_finish_43 : decode y_M_finish.2.1 43 = .ok (.if_icmp .ge 31, 3) := by decide +kernel
theorem d_M_finish_46 : decode y_M_finish.2.1 46 = .ok (.iload_n 3, 1) := by decide +kernel
theorem d_M_finish_47 : decode y_M_finish.2.1 47 = .ok (.iload_n 2, 1) := by decide +kernel
theorem d_M_finish_48 : decode y_M_finish.2.1 48 = .ok (.iload 4, 2) := by decide +kernel
theorem d_M_finish_50 : decode y_M_finish.2.1 50 = .ok (.invokestatic 29, 3) := by decide +kernel
theorem d_M_finish_53 : decode y_M_finish.2.1 53 = .ok (.ifCond .eq 12, 3) := by decide +kernel
theorem d_M_finish_56 : decode y_M_finish.2.1 56 = .ok (.aload_n 0, 1) := by decide +kernel
theorem d_M_finish_57 : decode y_M_finish.2.1 57 = .ok (.iload 4, 2) := by decide +kernel
theorem d_M_finish_59 : decode y_M_finish.2.1 59 = .ok (.invokevirtual 272, 3) := by decide +kernel
theorem d_M_finish_62 : decode y_M_finish.2.1 62 = .ok (.goto 4, 3) := by decide +kernel
theorem d_M_finish_65 : decode y_M_finish.2.1 65 = .ok (.iconst 0, 1) := by decide +kernel
theorem d_M_finish_66 : decode y_M_finish.2.1 66 = .ok (.ior, 1) := by decide +kernel
theorem d_M_finish_67 : decode y_M_finish.2.1 67 = .ok (.istore_n 3, 1) := by decide +kernel
theorem d_M_finish_68 : decode y_M_finish.2.1 68 = .ok (.iinc 4 1, 3) := by decide +kernel
theorem d_M_finish_71 : decode y_M_finish.2.1 71 = .ok (.goto (-34), 3) := by decide +kernel
theorem d_M_finish_74 : decode y_M_finish.2.1 74 = .ok (.aload_n 0, 1) := by decide +kernel
theorem d_M_finish_75 : decode y_M_finish.2.1 75 = .ok (.iload_n 1, 1) := by decide +kernel
theorem d_M_finish_76 : decode y_M_finish.2.1 76 = .ok (.invokevirtual 361, 3) := by decide +kernel
theorem d_M_finish_79 : decode y_M_finish.2.1 79 = .ok (.aload_n 0, 1) := by decide +kernel
theorem d_M_finish_80 : decode y_M_finish.2.1 80 = .ok (.iconst 0, 1) := by decide +kernel
theorem d_M_finish_81 : decode y_M_finish.2.1 81 = .ok (.invokevirtual 364, 3) := by decide +kernel
theorem d_M_finish_84 : decode y_M_finish.2.1 84 = .ok (.iload_n 3, 1) := by decide +kernel
theorem d_M_finish_85 : decode y_M_finish.2.1 85 = .ok (.aload_n 0, 1) := by decide +kernel
theorem d_M_finish_86 : decode y_M_finish.2.1 86 = .ok (.invokevirtual 367, 3) := by decide +kernel
theorem d_M_finish_89 : decode y_M_finish.2.1 89 = .ok (.iconst (-1), 1) := by decide +kernel
theorem d_M_finish_90 : decode y_M_finish.2.1 90 = .ok (.ixor, 1) := by decide +kernel
theorem d_M_finish_91 : decode y_M_finish.2.1 91 = .ok (.iand, 1) := by decide +kernel
theorem d_M_finish_92 : decode y_M_finish.2.1 92 = .ok (.istore 4, 2) := by decide +kernel
theorem d_M_finish_94 : decode y_M_finish.2.1 94 = .ok (.aload_n 0, 1) := by decide +kernel
theorem d_M_finish_95 : decode y_M_finish.2.1 95 = .ok (.iconst 0, 1) := by decide +kernel
theorem d_M_finish_96 : decode y_M_finish.2.1 96 = .ok (.putfield 11, 3) := by decide +kernel
theorem d_M_finish_99 : decode y_M_finish.2.1 99 = .ok (.iload 4, 2) := by decide +kernel
theorem d_M_finish_101 : decode y_M_finish.2.1 101 = .ok (.ifCond .eq 9, 3) := by decide +kernel
theorem d_M_finish_104 : decode y_M_finish.2.1 104 = .ok (.aload_n 0, 1) := by decide +kernel
theorem d_M_finish_105 : decode y_M_finish.2.1 105 = .ok (.iload 4, 2) := by decide +kernel
theorem d_M_finish_107 : decode y_M_finish.2.1 107 = .ok (.invokevirtual 236, 3) := by decide +kernel
theorem d_M_finish_110 : decode y_M_finish.2.1 110 = .ok (.iload 4, 2) := by decide +kernel
theorem d_M_finish_112 : decode y_M_finish.2.1 112 = .ok (.ifCond .ne 7, 3) := by decide +kernel
theorem d_M_finish_115 : decode y_M_finish.2.1 115 = .ok (.iconst 1, 1) := by decide +kernel
theorem d_M_finish_116 : decode y_M_finish.2.1 116 = .ok (.goto 4, 3) := by decide +kernel
theorem d_M_finish_119 : decode y_M_finish.2.1 119 = .ok (.iconst 0, 1) := by decide +kernel
theorem d_M_finish_120 : decode y_M_finish.2.1 120 = .ok (.invokestatic 33, 3) := by decide +kernel
theorem d_M_finish_123 : decode y_M_finish.2.1 123 = .ok (.ireturn, 1) := by decide +kernel
theorem d_M_stateNow_0 : decode y_M_stateNow.2.1 0 = .ok (.aload_n 0, 1) := by decide +kernel
theorem d_M_stateNow_1 : decode y_M_stateNow.2.1 1 = .ok (.getfield 154, 3) := by decide +kernel
theorem d_M_stateNow_4 : decode y_M_stateNow.2.1 4 = .ok (.iconst 0, 1) := by decide +kernel
theorem d_M_stateNow_5 : decode y_M_stateNow.2.1 5 = .ok (.iaload, 1) := by decide +kernel
theorem d_M_stateNow_6 : decode y_M_stateNow.2.1 6 = .ok (.i2l, 1) := by decide +kernel
theorem d_M_stateNow_7 : decode y_M_stateNow.2.1 7 = .ok (.aload_n 0, 1) := by decide +kernel
theorem d_M_stateNow_8 : decode y_M_stateNow.2.1 8 = .ok (.getfield 154, 3) := by decide +kernel
theorem d_M_stateNow_11 : decode y_M_stateNow.2.1 11 = .ok (.iconst 1, 1) := by decide +kernel
theorem d_M_stateNow_12 : decode y_M_stateNow.2.1 12 = .ok (.iaload, 1) := by decide +kernel
theorem d_M_stateNow_13 : decode y_M_stateNow.2.1 13 = .ok (.i2l, 1) := by decide +kernel
theorem d_M_stateNow_14 : decode y_M_stateNow.2.1 14 = .ok (.bipush 12, 2) := by decide +kernel
theorem d_M_stateNow_16 : decode y_M_stateNow.2.1 16 = .ok (.lshl, 1) := by decide +kernel
theorem d_M_stateNow_17 : decode y_M_stateNow.2.1 17 = .ok (.lor, 1) := by decide +kernel
theorem d_M_stateNow_18 : decode y_M_stateNow.2.1 18 = .ok (.aload_n 0, 1) := by decide +kernel
theorem d_M_stateNow_19 : decode y_M_stateNow.2.1 19 = .ok (.getfield 154, 3) := by decide +kernel
theorem d_M_stateNow_22 : decode y_M_stateNow.2.1 22 = .ok (.iconst 2, 1) := by decide +kernel
theorem d_M_stateNow_23 : decode y_M_stateNow.2.1 23 = .ok (.iaload, 1) := by decide +kernel
theorem d_M_stateNow_24 : decode y_M_stateNow.2.1 24 = .ok (.i2l, 1) := by decide +kernel
theorem d_M_stateNow_25 : decode y_M_stateNow.2.1 25 = .ok (.bipush 24, 2) := by decide +kernel
theorem d_M_stateNow_27 : decode y_M_stateNow.2.1 27 = .ok (.lshl, 1) := by decide +kernel
theorem d_M_stateNow_28 : decode y_M_stateNow.2.1 28 = .ok (.lor, 1) := by decide +kernel
theorem d_M_stateNow_29 : decode y_M_stateNow.2.1 29 = .ok (.lreturn, 1) := by decide +kernel
theorem d_M_setOf_0 : decode y_M_setOf.2.1 0 = .ok (.lload_n 0, 1) := by decide +kernel
theorem d_M_setOf_1 : decode y_M_setOf.2.1 1 = .ok (.bipush 12, 2) := by decide +kernel
theorem d_M_setOf_3 : decode y_M_setOf.2.1 3 = .ok (.iload_n 2, 1) := by decide +kernel
theorem d_M_setOf_4 : decode y_M_setOf.2.1 4 = .ok (.imul, 1) := by decide +kernel
theorem d_M_setOf_5 : decode y_M_setOf.2.1 5 = .ok (.lshr, 1) := by decide +kernel
theorem d_M_setOf_6 : decode y_M_setOf.2.1 6 = .ok (.l2i, 1) := by decide +kernel
theorem d_M_setOf_7 : decode y_M_setOf.2.1 7 = .ok (.sipush 4095, 3) := by decide +kernel
theorem d_M_setOf_10 : decode y_M_setOf.2.1 10 = .ok (.iand, 1) := by decide +kernel
theorem d_M_setOf_11 : decode y_M_setOf.2.1 11 = .ok (.ireturn, 1) := by decide +kernel
theorem d_M_everyOf_0 : decode y_M_everyOf.2.1 0 = .ok (.lload_n 0, 1) := by decide +kernel
theorem d_M_everyOf_1 : decode y_M_everyOf.2.1 1 = .ok (.iconst 0, 1) := by decide +kernel
theorem d_M_everyOf_2 : decode y_M_everyOf.2.1 2 = .ok (.invokestatic 382, 3) := by decide +kernel
theorem d_M_everyOf_5 : decode y_M_everyOf.2.1 5 = .ok (.lload_n 0, 1) := by decide +kernel
theorem d_M_everyOf_6 : decode y_M_everyOf.2.1 6 = .ok (.iconst 1, 1) := by decide +kernel
theorem d_M_everyOf_7 : decode y_M_everyOf.2.1 7 = .ok (.invokestatic 382, 3) := by decide +kernel
theorem d_M_everyOf_10 : decode y_M_everyOf.2.1 10 = .ok (.ior, 1) := by decide +kernel
theorem d_M_everyOf_11 : decode y_M_everyOf.2.1 11 = .ok (.lload_n 0, 1) := by decide +kernel
theorem d_M_everyOf_12 : decode y_M_everyOf.2.1 12 = .ok (.iconst 2, 1) := by decide +kernel
theorem d_M_everyOf_13 : decode y_M_everyOf.2.1 13 = .ok (.invokestatic 382, 3) := by decide +kernel
theorem d_M_everyOf_16 : decode y_M_everyOf.2.1 16 = .ok (.ior, 1) := by decide +kernel
theorem d_M_everyOf_17 : decode y_M_everyOf.2.1 17 = .ok (.ireturn, 1) := by decide +kernel
theorem d_M_stands_0 : decode y_M_stands.2.1 0 = .ok (.iconst 0, 1) := by decide +kernel
theorem d_M_stands_1 : decode y_M_stands.2.1 1 = .ok (.istore_n 3, 1) := by decide +kernel
theorem d_M_stands_2 : decode y_M_stands.2.1 2 = .ok (.iload_n 3, 1) := by decide +kernel
theorem d_M_stands_3 : decode y_M_stands.2.1 3 = .ok (.iconst 3, 1) := by decide +kernel
theorem d_M_stands_4 : decode y_M_stands.2.1 4 = .ok (.if_icmp .ge 20, 3) := by decide +kernel
theorem d_M_stands_7 : decode y_M_stands.2.1 7 = .ok (.aload_n 0, 1) := by decide +kernel
theorem d_M_stands_8 : decode y_M_stands.2.1 8 = .ok (.getfield 154, 3) := by decide +kernel
theorem d_M_stands_11 : decode y_M_stands.2.1 11 = .ok (.iload_n 3, 1) := by decide +kernel
theorem d_M_stands_12 : decode y_M_stands.2.1 12 = .ok (.lload_n 1, 1) := by decide +kernel
theorem d_M_stands_13 : decode y_M_stands.2.1 13 = .ok (.iload_n 3, 1) := by decide +kernel
theorem d_M_stands_14 : decode y_M_stands.2.1 14 = .ok (.invokestatic 382, 3) := by decide +kernel
theorem d_M_stands_17 : decode y_M_stands.2.1 17 = .ok (.iastore, 1) := by decide +kernel
theorem d_M_stands_18 : decode y_M_stands.2.1 18 = .ok (.iinc 3 1, 3) := by decide +kernel
theorem d_M_stands_21 : decode y_M_stands.2.1 21 = .ok (.goto (-19), 3) := by decide +kernel
theorem d_M_stands_24 : decode y_M_stands.2.1 24 = .ok (.return_, 1) := by decide +kernel
theorem d_M_slotOf_0 : decode y_M_slotOf.2.1 0 = .ok (.lload_n 1, 1) := by decide +kernel
theorem d_M_slotOf_1 : decode y_M_slotOf.2.1 1 = .ok (.ldc2_w 386, 3) := by decide +kernel
theorem d_M_slotOf_4 : decode y_M_slotOf.2.1 4 = .ok (.lmul, 1) := by decide +kernel
theorem d_M_slotOf_5 : decode y_M_slotOf.2.1 5 = .ok (.ldc2_w 388, 3) := by decide +kernel
theorem d_M_slotOf_8 : decode y_M_slotOf.2.1 8 = .ok (.lrem, 1) := by decide +kernel
theorem d_M_slotOf_9 : decode y_M_slotOf.2.1 9 = .ok (.l2i, 1) := by decide +kernel
theorem d_M_slotOf_10 : decode y_M_slotOf.2.1 10 = .ok (.istore_n 3, 1) := by decide +kernel
theorem d_M_slotOf_11 : decode y_M_slotOf.2.1 11 = .ok (.aload_n 0, 1) := by decide +kernel
theorem d_M_slotOf_12 : decode y_M_slotOf.2.1 12 = .ok (.getfield 390, 3) := by decide +kernel
theorem d_M_slotOf_15 : decode y_M_slotOf.2.1 15 = .ok (.iload_n 3, 1) := by decide +kernel
theorem d_M_slotOf_16 : decode y_M_slotOf.2.1 16 = .ok (.iaload, 1) := by decide +kernel
theorem d_M_slotOf_17 : decode y_M_slotOf.2.1 17 = .ok (.ifCond .lt 30, 3) := by decide +kernel
theorem d_M_slotOf_20 : decode y_M_slotOf.2.1 20 = .ok (.aload_n 0, 1) := by decide +kernel
theorem d_M_slotOf_21 : decode y_M_slotOf.2.1 21 = .ok (.getfield 393, 3) := by decide +kernel
theorem d_M_slotOf_24 : decode y_M_slotOf.2.1 24 = .ok (.aload_n 0, 1) := by decide +kernel
theorem d_M_slotOf_25 : decode y_M_slotOf.2.1 25 = .ok (.getfield 390, 3) := by decide +kernel
theorem d_M_slotOf_28 : decode y_M_slotOf.2.1 28 = .ok (.iload_n 3, 1) := by decide +kernel
theorem d_M_slotOf_29 : decode y_M_slotOf.2.1 29 = .ok (.iaload, 1) := by decide +kernel
theorem d_M_slotOf_30 : decode y_M_slotOf.2.1 30 = .ok (.laload, 1) := by decide +kernel
theorem d_M_slotOf_31 : decode y_M_slotOf.2.1 31 = .ok (.lload_n 1, 1) := by decide +kernel
theorem d_M_slotOf_32 : decode y_M_slotOf.2.1 32 = .ok (.lcmp, 1) := by decide +kernel
theorem d_M_slotOf_33 : decode y_M_slotOf.2.1 33 = .ok (.ifCond .eq 14, 3) := by decide +kernel
theorem d_M_slotOf_36 : decode y_M_slotOf.2.1 36 = .ok (.iload_n 3, 1) := by decide +kernel
theorem d_M_slotOf_37 : decode y_M_slotOf.2.1 37 = .ok (.iconst 1, 1) := by decide +kernel
theorem d_M_slotOf_38 : decode y_M_slotOf.2.1 38 = .ok (.iadd, 1) := by decide +kernel
theorem d_M_slotOf_39 : decode y_M_slotOf.2.1 39 = .ok (.sipush 16384, 3) := by decide +kernel
theorem d_M_slotOf_42 : decode y_M_slotOf.2.1 42 = .ok (.irem, 1) := by decide +kernel
theorem d_M_slotOf_43 : decode y_M_slotOf.2.1 43 = .ok (.istore_n 3, 1) := by decide +kernel
theorem d_M_slotOf_44 : decode y_M_slotOf.2.1 44 = .ok (.goto (-33), 3) := by decide +kernel
theorem d_M_slotOf_47 : decode y_M_slotOf.2.1 47 = .ok (.iload_n 3, 1) := by decide +kernel
theorem d_M_slotOf_48 : decode y_M_slotOf.2.1 48 = .ok (.ireturn, 1) := by decide +kernel
theorem d_M_numberOf_0 : decode y_M_numberOf.2.1 0 = .ok (.aload_n 0, 1) := by decide +kernel
theorem d_M_numberOf_1 : decode y_M_numberOf.2.1 1 = .ok (.lload_n 1, 1) := by decide +kernel
theorem d_M_numberOf_2 : decode y_M_numberOf.2.1 2 = .ok (.invokevirtual 397, 3) := by decide +kernel
theorem d_M_numberOf_5 : decode y_M_numberOf.2.1 5 = .ok (.istore 5, 2) := by decide +kernel
theorem d_M_numberOf_7 : decode y_M_numberOf.2.1 7 = .ok (.aload_n 0, 1) := by decide +kernel
theorem d_M_numberOf_8 : decode y_M_numberOf.2.1 8 = .ok (.getfield 390, 3) := by decide +kernel
theorem d_M_numberOf_11 : decode y_M_numberOf.2.1 11 = .ok (.iload 5, 2) := by decide +kernel
theorem d_M_numberOf_13 : decode y_M_numberOf.2.1 13 = .ok (.iaload, 1) := by decide +kernel
theorem d_M_numberOf_14 : decode y_M_numberOf.2.1 14 = .ok (.ifCond .lt 11, 3) := by decide +kernel
theorem d_M_numberOf_17 : decode y_M_numberOf.2.1 17 = .ok (.aload_n 0, 1) := by decide +kernel
theorem d_M_numberOf_18 : decode y_M_numberOf.2.1 18 = .ok (.getfield 390, 3) := by decide +kernel
theorem d_M_numberOf_21 : decode y_M_numberOf.2.1 21 = .ok (.iload 5, 2) := by decide +kernel
theorem d_M_numberOf_23 : decode y_M_numberOf.2.1 23 = .ok (.iaload, 1) := by decide +kernel
theorem d_M_numberOf_24 : decode y_M_numberOf.2.1 24 = .ok (.ireturn, 1) := by decide +kernel
theorem d_M_numberOf_25 : decode y_M_numberOf.2.1 25 = .ok (.aload_n 0, 1) := by decide +kernel
theorem d_M_numberOf_26 : decode y_M_numberOf.2.1 26 = .ok (.getfield 401, 3) := by decide +kernel
theorem d_M_numberOf_29 : decode y_M_numberOf.2.1 29 = .ok (.sipush 5000, 3) := by decide +kernel
theorem d_M_numberOf_32 : decode y_M_numberOf.2.1 32 = .ok (.if_icmp .ne 5, 3) := by decide +kernel
theorem d_M_numberOf_35 : decode y_M_numberOf.2.1 35 = .ok (.iconst (-1), 1) := by decide +kernel
theorem d_M_numberOf_36 : decode y_M_numberOf.2.1 36 = .ok (.ireturn, 1) := by decide +kernel
theorem d_M_numberOf_37 : decode y_M_numberOf.2.1 37 = .ok (.aload_n 0, 1) := by decide +kernel
theorem d_M_numberOf_38 : decode y_M_numberOf.2.1 38 = .ok (.getfield 393, 3) := by decide +kernel
theorem d_M_numberOf_41 : decode y_M_numberOf.2.1 41 = .ok (.aload_n 0, 1) := by decide +kernel
theorem d_M_numberOf_42 : decode y_M_numberOf.2.1 42 = .ok (.getfield 401, 3) := by decide +kernel
theorem d_M_numberOf_45 : decode y_M_numberOf.2.1 45 = .ok (.lload_n 1, 1) := by decide +kernel
theorem d_M_numberOf_46 : decode y_M_numberOf.2.1 46 = .ok (.lastore, 1) := by decide +kernel
theorem d_M_numberOf_47 : decode y_M_numberOf.2.1 47 = .ok (.aload_n 0, 1) := by decide +kernel
theorem d_M_numberOf_48 : decode y_M_numberOf.2.1 48 = .ok (.getfield 404, 3) := by decide +kernel
theorem d_M_numberOf_51 : decode y_M_numberOf.2.1 51 = .ok (.aload_n 0, 1) := by decide +kernel
theorem d_M_numberOf_52 : decode y_M_numberOf.2.1 52 = .ok (.getfield 401, 3) := by decide +kernel
theorem d_M_numberOf_55 : decode y_M_numberOf.2.1 55 = .ok (.iload_n 3, 1) := by decide +kernel
theorem d_M_numberOf_56 : decode y_M_numberOf.2.1 56 = .ok (.ifCond .ge 7, 3) := by decide +kernel
theorem d_M_numberOf_59 : decode y_M_numberOf.2.1 59 = .ok (.iconst 0, 1) := by decide +kernel
theorem d_M_numberOf_60 : decode y_M_numberOf.2.1 60 = .ok (.goto 11, 3) := by decide +kernel
theorem d_M_numberOf_63 : decode y_M_numberOf.2.1 63 = .ok (.aload_n 0, 1) := by decide +kernel
theorem d_M_numberOf_64 : decode y_M_numberOf.2.1 64 = .ok (.getfield 404, 3) := by decide +kernel
theorem d_M_numberOf_67 : decode y_M_numberOf.2.1 67 = .ok (.iload_n 3, 1) := by decide +kernel
theorem d_M_numberOf_68 : decode y_M_numberOf.2.1 68 = .ok (.iaload, 1) := by decide +kernel
theorem d_M_numberOf_69 : decode y_M_numberOf.2.1 69 = .ok (.iconst 1, 1) := by decide +kernel
theorem d_M_numberOf_70 : decode y_M_numberOf.2.1 70 = .ok (.iadd, 1) := by decide +kernel
theorem d_M_numberOf_71 : decode y_M_numberOf.2.1 71 = .ok (.iastore, 1) := by decide +kernel
theorem d_M_numberOf_72 : decode y_M_numberOf.2.1 72 = .ok (.aload_n 0, 1) := by decide +kernel
theorem d_M_numberOf_73 : decode y_M_numberOf.2.1 73 = .ok (.getfield 407, 3) := by decide +kernel
theorem d_M_numberOf_76 : decode y_M_numberOf.2.1 76 = .ok (.aload_n 0, 1) := by decide +kernel
theorem d_M_numberOf_77 : decode y_M_numberOf.2.1 77 = .ok (.getfield 401, 3) := by decide +kernel
theorem d_M_numberOf_80 : decode y_M_numberOf.2.1 80 = .ok (.iload_n 3, 1) := by decide +kernel
theorem d_M_numberOf_81 : decode y_M_numberOf.2.1 81 = .ok (.iastore, 1) := by decide +kernel
theorem d_M_numberOf_82 : decode y_M_numberOf.2.1 82 = .ok (.aload_n 0, 1) := by decide +kernel
theorem d_M_numberOf_83 : decode y_M_numberOf.2.1 83 = .ok (.getfield 410, 3) := by decide +kernel
theorem d_M_numberOf_86 : decode y_M_numberOf.2.1 86 = .ok (.aload_n 0, 1) := by decide +kernel
theorem d_M_numberOf_87 : decode y_M_numberOf.2.1 87 = .ok (.getfield 401, 3) := by decide +kernel
theorem d_M_numberOf_90 : decode y_M_numberOf.2.1 90 = .ok (.iload 4, 2) := by decide +kernel
theorem d_M_numberOf_92 : decode y_M_numberOf.2.1 92 = .ok (.iastore, 1) := by decide +kernel
theorem d_M_numberOf_93 : decode y_M_numberOf.2.1 93 = .ok (.aload_n 0, 1) := by decide +kernel
theorem d_M_numberOf_94 : decode y_M_numberOf.2.1 94 = .ok (.getfield 390, 3) := by decide +kernel
theorem d_M_numberOf_97 : decode y_M_numberOf.2.1 97 = .ok (.iload 5, 2) := by decide +kernel
theorem d_M_numberOf_99 : decode y_M_numberOf.2.1 99 = .ok (.aload_n 0, 1) := by decide +kernel
theorem d_M_numberOf_100 : decode y_M_numberOf.2.1 100 = .ok (.getfield 401, 3) := by decide +kernel
theorem d_M_numberOf_103 : decode y_M_numberOf.2.1 103 = .ok (.iastore, 1) := by decide +kernel
theorem d_M_numberOf_104 : decode y_M_numberOf.2.1 104 = .ok (.aload_n 0, 1) := by decide +kernel
theorem d_M_numberOf_105 : decode y_M_numberOf.2.1 105 = .ok (.dup, 1) := by decide +kernel
theorem d_M_numberOf_106 : decode y_M_numberOf.2.1 106 = .ok (.getfield 401, 3) := by decide +kernel
theorem d_M_numberOf_109 : decode y_M_numberOf.2.1 109 = .ok (.iconst 1, 1) := by decide +kernel
theorem d_M_numberOf_110 : decode y_M_numberOf.2.1 110 = .ok (.iadd, 1) := by decide +kernel
theorem d_M_numberOf_111 : decode y_M_numberOf.2.1 111 = .ok (.putfield 401, 3) := by decide +kernel
theorem d_M_numberOf_114 : decode y_M_numberOf.2.1 114 = .ok (.aload_n 0, 1) := by decide +kernel
theorem d_M_numberOf_115 : decode y_M_numberOf.2.1 115 = .ok (.getfield 390, 3) := by decide +kernel
theorem d_M_numberOf_118 : decode y_M_numberOf.2.1 118 = .ok (.iload 5, 2) := by decide +kernel
theorem d_M_numberOf_120 : decode y_M_numberOf.2.1 120 = .ok (.iaload, 1) := by decide +kernel
theorem d_M_numberOf_121 : decode y_M_numberOf.2.1 121 = .ok (.ireturn, 1) := by decide +kernel
theorem d_M_explores_0 : decode y_M_explores.2.1 0 = .ok (.iconst 0, 1) := by decide +kernel
theorem d_M_explores_1 : decode y_M_explores.2.1 1 = .ok (.istore_n 3, 1) := by decide +kernel
theorem d_M_explores_2 : decode y_M_explores.2.1 2 = .ok (.iload_n 3, 1) := by decide +kernel
theorem d_M_explores_3 : decode y_M_explores.2.1 3 = .ok (.sipush 16384, 3) := by decide +kernel
theorem d_M_explores_6 : decode y_M_explores.2.1 6 = .ok (.if_icmp .ge 16, 3) := by decide +kernel
theorem d_M_explores_9 : decode y_M_explores.2.1 9 = .ok (.aload_n 0, 1) := by decide +kernel
theorem d_M_explores_10 : decode y_M_explores.2.1 10 = .ok (.getfield 390, 3) := by decide +kernel
theorem d_M_explores_13 : decode y_M_explores.2.1 13 = .ok (.iload_n 3, 1) := by decide +kernel
theorem d_M_explores_14 : decode y_M_explores.2.1 14 = .ok (.iconst (-1), 1) := by decide +kernel
theorem d_M_explores_15 : decode y_M_explores.2.1 15 = .ok (.iastore, 1) := by decide +kernel
theorem d_M_explores_16 : decode y_M_explores.2.1 16 = .ok (.iinc 3 1, 3) := by decide +kernel
theorem d_M_explores_19 : decode y_M_explores.2.1 19 = .ok (.goto (-17), 3) := by decide +kernel
theorem d_M_explores_22 : decode y_M_explores.2.1 22 = .ok (.aload_n 0, 1) := by decide +kernel
theorem d_M_explores_23 : decode y_M_explores.2.1 23 = .ok (.iconst 0, 1) := by decide +kernel
theorem d_M_explores_24 : decode y_M_explores.2.1 24 = .ok (.putfield 401, 3) := by decide +kernel
theorem d_M_explores_27 : decode y_M_explores.2.1 27 = .ok (.aload_n 0, 1) := by decide +kernel
theorem d_M_explores_28 : decode y_M_explores.2.1 28 = .ok (.lload_n 1, 1) := by decide +kernel
theorem d_M_explores_29 : decode y_M_explores.2.1 29 = .ok (.iconst (-1), 1) := by decide +kernel
theorem d_M_explores_30 : decode y_M_explores.2.1 30 = .ok (.iconst (-1), 1) := by decide +kernel
theorem d_M_explores_31 : decode y_M_explores.2.1 31 = .ok (.invokevirtual 413, 3) := by decide +kernel
theorem d_M_explores_34 : decode y_M_explores.2.1 34 = .ok (.pop, 1) := by decide +kernel
theorem d_M_explores_35 : decode y_M_explores.2.1 35 = .ok (.aload_n 0, 1) := by decide +kernel
theorem d_M_explores_36 : decode y_M_explores.2.1 36 = .ok (.invokevirtual 250, 3) := by decide +kernel
theorem d_M_explores_39 : decode y_M_explores.2.1 39 = .ok (.iconst 1, 1) := by decide +kernel
theorem d_M_explores_40 : decode y_M_explores.2.1 40 = .ok (.istore_n 3, 1) := by decide +kernel
theorem d_M_explores_41 : decode y_M_explores.2.1 41 = .ok (.iconst 0, 1) := by decide +kernel
theorem d_M_explores_42 : decode y_M_explores.2.1 42 = .ok (.istore 4, 2) := by decide +kernel
theorem d_M_explores_44 : decode y_M_explores.2.1 44 = .ok (.iload 4, 2) := by decide +kernel
theorem d_M_explores_46 : decode y_M_explores.2.1 46 = .ok (.aload_n 0, 1) := by decide +kernel
theorem d_M_explores_47 : decode y_M_explores.2.1 47 = .ok (.getfield 401, 3) := by decide +kernel
theorem d_M_explores_50 : decode y_M_explores.2.1 50 = .ok (.if_icmp .ge 170, 3) := by decide +kernel
theorem d_M_explores_53 : decode y_M_explores.2.1 53 = .ok (.iload_n 3, 1) := by decide +kernel
theorem d_M_explores_54 : decode y_M_explores.2.1 54 = .ok (.ifCond .eq 166, 3) := by decide +kernel
theorem d_M_explores_57 : decode y_M_explores.2.1 57 = .ok (.iconst 0, 1) := by decide +kernel
theorem d_M_explores_58 : decode y_M_explores.2.1 58 = .ok (.istore 5, 2) := by decide +kernel
theorem d_M_explores_60 : decode y_M_explores.2.1 60 = .ok (.iconst 0, 1) := by decide +kernel
theorem d_M_explores_61 : decode y_M_explores.2.1 61 = .ok (.istore 6, 2) := by decide +kernel
theorem d_M_explores_63 : decode y_M_explores.2.1 63 = .ok (.iload 6, 2) := by decide +kernel
theorem d_M_explores_65 : decode y_M_explores.2.1 65 = .ok (.sipush 140, 3) := by decide +kernel
theorem d_M_explores_68 : decode y_M_explores.2.1 68 = .ok (.if_icmp .ge 115, 3) := by decide +kernel
theorem d_M_explores_71 : decode y_M_explores.2.1 71 = .ok (.iload_n 3, 1) := by decide +kernel
theorem d_M_explores_72 : decode y_M_explores.2.1 72 = .ok (.ifCond .eq 111, 3) := by decide +kernel
theorem d_M_explores_75 : decode y_M_explores.2.1 75 = .ok (.aload_n 0, 1) := by decide +kernel
theorem d_M_explores_76 : decode y_M_explores.2.1 76 = .ok (.aload_n 0, 1) := by decide +kernel
theorem d_M_explores_77 : decode y_M_explores.2.1 77 = .ok (.getfield 393, 3) := by decide +kernel
theorem d_M_explores_80 : decode y_M_explores.2.1 80 = .ok (.iload 4, 2) := by decide +kernel
theorem d_M_explores_82 : decode y_M_explores.2.1 82 = .ok (.laload, 1) := by decide +kernel
theorem d_M_explores_83 : decode y_M_explores.2.1 83 = .ok (.invokevirtual 417, 3) := by decide +kernel
theorem d_M_explores_86 : decode y_M_explores.2.1 86 = .ok (.aload_n 0, 1) := by decide +kernel
theorem d_M_explores_87 : decode y_M_explores.2.1 87 = .ok (.iload 6, 2) := by decide +kernel
theorem d_M_explores_89 : decode y_M_explores.2.1 89 = .ok (.invokevirtual 223, 3) := by decide +kernel
theorem d_M_explores_92 : decode y_M_explores.2.1 92 = .ok (.ifCond .eq 85, 3) := by decide +kernel
theorem d_M_explores_95 : decode y_M_explores.2.1 95 = .ok (.aload_n 0, 1) := by decide +kernel
theorem d_M_explores_96 : decode y_M_explores.2.1 96 = .ok (.iload 6, 2) := by decide +kernel
theorem d_M_explores_98 : decode y_M_explores.2.1 98 = .ok (.invokevirtual 226, 3) := by decide +kernel
theorem d_M_explores_101 : decode y_M_explores.2.1 101 = .ok (.ifCond .ge 6, 3) := by decide +kernel
theorem d_M_explores_104 : decode y_M_explores.2.1 104 = .ok (.goto 73, 3) := by decide +kernel
theorem d_M_explores_107 : decode y_M_explores.2.1 107 = .ok (.aload_n 0, 1) := by decide +kernel
theorem d_M_explores_108 : decode y_M_explores.2.1 108 = .ok (.iload 6, 2) := by decide +kernel
theorem d_M_explores_110 : decode y_M_explores.2.1 110 = .ok (.invokevirtual 229, 3) := by decide +kernel
theorem d_M_explores_113 : decode y_M_explores.2.1 113 = .ok (.pop, 1) := by decide +kernel
theorem d_M_explores_114 : decode y_M_explores.2.1 114 = .ok (.aload_n 0, 1) := by decide +kernel
theorem d_M_explores_115 : decode y_M_explores.2.1 115 = .ok (.getfield 176, 3) := by decide +kernel
theorem d_M_explores_118 : decode y_M_explores.2.1 118 = .ok (.iload 6, 2) := by decide +kernel
theorem d_M_explores_120 : decode y_M_explores.2.1 120 = .ok (.bipush 20, 2) := by decide +kernel
theorem d_M_explores_122 : decode y_M_explores.2.1 122 = .ok (.irem, 1) := by decide +kernel
theorem d_M_explores_123 : decode y_M_explores.2.1 123 = .ok (.aload_n 0, 1) := by decide +kernel
theorem d_M_explores_124 : decode y_M_explores.2.1 124 = .ok (.getfield 245, 3) := by decide +kernel
theorem d_M_explores_127 : decode y_M_explores.2.1 127 = .ok (.iload 6, 2) := by decide +kernel
theorem d_M_explores_129 : decode y_M_explores.2.1 129 = .ok (.bipush 20, 2) := by decide +kernel
theorem d_M_explores_131 : decode y_M_explores.2.1 131 = .ok (.irem, 1) := by decide +kernel
theorem d_M_explores_132 : decode y_M_explores.2.1 132 = .ok (.iaload, 1) := by decide +kernel
theorem d_M_explores_133 : decode y_M_explores.2.1 133 = .ok (.iastore, 1) := by decide +kernel
theorem d_M_explores_134 : decode y_M_explores.2.1 134 = .ok (.aload_n 0, 1) := by decide +kernel
theorem d_M_explores_135 : decode y_M_explores.2.1 135 = .ok (.aload_n 0, 1) := by decide +kernel
theorem d_M_explores_136 : decode y_M_explores.2.1 136 = .ok (.invokevirtual 421, 3) := by decide +kernel
theorem d_M_explores_139 : decode y_M_explores.2.1 139 = .ok (.iload 4, 2) := by decide +kernel
theorem d_M_explores_141 : decode y_M_explores.2.1 141 = .ok (.iload 6, 2) := by decide +kernel
theorem d_M_explores_143 : decode y_M_explores.2.1 143 = .ok (.invokevirtual 413, 3) := by decide +kernel
theorem d_M_explores_146 : decode y_M_explores.2.1 146 = .ok (.istore 7, 2) := by decide +kernel
theorem d_M_explores_148 : decode y_M_explores.2.1 148 = .ok (.iload 7, 2) := by decide +kernel
theorem d_M_explores_150 : decode y_M_explores.2.1 150 = .ok (.ifCond .lt 7, 3) := by decide +kernel
theorem d_M_explores_153 : decode y_M_explores.2.1 153 = .ok (.iconst 1, 1) := by decide +kernel
theorem d_M_explores_154 : decode y_M_explores.2.1 154 = .ok (.goto 4, 3) := by decide +kernel
theorem d_M_explores_157 : decode y_M_explores.2.1 157 = .ok (.iconst 0, 1) := by decide +kernel
theorem d_M_explores_158 : decode y_M_explores.2.1 158 = .ok (.istore_n 3, 1) := by decide +kernel
theorem d_M_explores_159 : decode y_M_explores.2.1 159 = .ok (.aload_n 0, 1) := by decide +kernel
theorem d_M_explores_160 : decode y_M_explores.2.1 160 = .ok (.getfield 425, 3) := by decide +kernel
theorem d_M_explores_163 : decode y_M_explores.2.1 163 = .ok (.bipush 36, 2) := by decide +kernel
theorem d_M_explores_165 : decode y_M_explores.2.1 165 = .ok (.iload 4, 2) := by decide +kernel
theorem d_M_explores_167 : decode y_M_explores.2.1 167 = .ok (.imul, 1) := by decide +kernel
theorem d_M_explores_168 : decode y_M_explores.2.1 168 = .ok (.iload 5, 2) := by decide +kernel
theorem d_M_explores_170 : decode y_M_explores.2.1 170 = .ok (.iadd, 1) := by decide +kernel
theorem d_M_explores_171 : decode y_M_explores.2.1 171 = .ok (.iload 7, 2) := by decide +kernel
theorem d_M_explores_173 : decode y_M_explores.2.1 173 = .ok (.iastore, 1) := by decide +kernel
theorem d_M_explores_174 : decode y_M_explores.2.1 174 = .ok (.iinc 5 1, 3) := by decide +kernel
theorem d_M_explores_177 : decode y_M_explores.2.1 177 = .ok (.iinc 6 1, 3) := by decide +kernel
theorem d_M_explores_180 : decode y_M_explores.2.1 180 = .ok (.goto (-117), 3) := by decide +kernel
theorem d_M_explores_183 : decode y_M_explores.2.1 183 = .ok (.iload 5, 2) := by decide +kernel
theorem d_M_explores_185 : decode y_M_explores.2.1 185 = .ok (.istore 6, 2) := by decide +kernel
theorem d_M_explores_187 : decode y_M_explores.2.1 187 = .ok (.iload 6, 2) := by decide +kernel
theorem d_M_explores_189 : decode y_M_explores.2.1 189 = .ok (.bipush 36, 2) := by decide +kernel
theorem d_M_explores_191 : decode y_M_explores.2.1 191 = .ok (.if_icmp .ge 23, 3) := by decide +kernel
theorem d_M_explores_194 : decode y_M_explores.2.1 194 = .ok (.aload_n 0, 1) := by decide +kernel
theorem d_M_explores_195 : decode y_M_explores.2.1 195 = .ok (.getfield 425, 3) := by decide +kernel
theorem d_M_explores_198 : decode y_M_explores.2.1 198 = .ok (.bipush 36, 2) := by decide +kernel
theorem d_M_explores_200 : decode y_M_explores.2.1 200 = .ok (.iload 4, 2) := by decide +kernel
theorem d_M_explores_202 : decode y_M_explores.2.1 202 = .ok (.imul, 1) := by decide +kernel
theorem d_M_explores_203 : decode y_M_explores.2.1 203 = .ok (.iload 6, 2) := by decide +kernel
theorem d_M_explores_205 : decode y_M_explores.2.1 205 = .ok (.iadd, 1) := by decide +kernel
theorem d_M_explores_206 : decode y_M_explores.2.1 206 = .ok (.iconst (-1), 1) := by decide +kernel
theorem d_M_explores_207 : decode y_M_explores.2.1 207 = .ok (.iastore, 1) := by decide +kernel
theorem d_M_explores_208 : decode y_M_explores.2.1 208 = .ok (.iinc 6 1, 3) := by decide +kernel
theorem d_M_explores_211 : decode y_M_explores.2.1 211 = .ok (.goto (-24), 3) := by decide +kernel
theorem d_M_explores_214 : decode y_M_explores.2.1 214 = .ok (.iinc 4 1, 3) := by decide +kernel
theorem d_M_explores_217 : decode y_M_explores.2.1 217 = .ok (.goto (-173), 3) := by decide +kernel
theorem d_M_explores_220 : decode y_M_explores.2.1 220 = .ok (.aload_n 0, 1) := by decide +kernel
theorem d_M_explores_221 : decode y_M_explores.2.1 221 = .ok (.invokevirtual 254, 3) := by decide +kernel
theorem d_M_explores_224 : decode y_M_explores.2.1 224 = .ok (.iload_n 3, 1) := by decide +kernel
theorem d_M_explores_225 : decode y_M_explores.2.1 225 = .ok (.ireturn, 1) := by decide +kernel
theorem d_M_everFound_0 : decode y_M_everFound.2.1 0 = .ok (.iconst 0, 1) := by decide +kernel
theorem d_M_everFound_1 : decode y_M_everFound.2.1 1 = .ok (.istore_n 1, 1) := by decide +kernel
theorem d_M_everFound_2 : decode y_M_everFound.2.1 2 = .ok (.iconst 0, 1) := by decide +kernel
theorem d_M_everFound_3 : decode y_M_everFound.2.1 3 = .ok (.istore_n 2, 1) := by decide +kernel
theorem d_M_everFound_4 : decode y_M_everFound.2.1 4 = .ok (.iload_n 2, 1) := by decide +kernel
theorem d_M_everFound_5 : decode y_M_everFound.2.1 5 = .ok (.aload_n 0, 1) := by decide +kernel
theorem d_M_everFound_6 : decode y_M_everFound.2.1 6 = .ok (.getfield 401, 3) := by decide +kernel
theorem d_M_everFound_9 : decode y_M_everFound.2.1 9 = .ok (.if_icmp .ge 21, 3) := by decide +kernel
theorem d_M_everFound_12 : decode y_M_everFound.2.1 12 = .ok (.iload_n 1, 1) := by decide +kernel
theorem d_M_everFound_13 : decode y_M_everFound.2.1 13 = .ok (.aload_n 0, 1) := by decide +kernel
theorem d_M_everFound_14 : decode y_M_everFound.2.1 14 = .ok (.getfield 393, 3) := by decide +kernel
theorem d_M_everFound_17 : decode y_M_everFound.2.1 17 = .ok (.iload_n 2, 1) := by decide +kernel
theorem d_M_everFound_18 : decode y_M_everFound.2.1 18 = .ok (.laload, 1) := by decide +kernel
theorem d_M_everFound_19 : decode y_M_everFound.2.1 19 = .ok (.invokestatic 428, 3) := by decide +kernel
theorem d_M_everFound_22 : decode y_M_everFound.2.1 22 = .ok (.ior, 1) := by decide +kernel
theorem d_M_everFound_23 : decode y_M_everFound.2.1 23 = .ok (.istore_n 1, 1) := by decide +kernel
theorem d_M_everFound_24 : decode y_M_everFound.2.1 24 = .ok (.iinc 2 1, 3) := by decide +kernel
theorem d_M_everFound_27 : decode y_M_everFound.2.1 27 = .ok (.goto (-23), 3) := by decide +kernel
theorem d_M_everFound_30 : decode y_M_everFound.2.1 30 = .ok (.iload_n 1, 1) := by decide +kernel
theorem d_M_everFound_31 : decode y_M_everFound.2.1 31 = .ok (.ireturn, 1) := by decide +kernel
theorem d_M_reach_0 : decode y_M_reach.2.1 0 = .ok (.aload_n 0, 1) := by decide +kernel
theorem d_M_reach_1 : decode y_M_reach.2.1 1 = .ok (.iconst 0, 1) := by decide +kernel
theorem d_M_reach_2 : decode y_M_reach.2.1 2 = .ok (.putfield 3, 3) := by decide +kernel
theorem d_M_reach_5 : decode y_M_reach.2.1 5 = .ok (.aload_n 0, 1) := by decide +kernel
theorem d_M_reach_6 : decode y_M_reach.2.1 6 = .ok (.aload_n 0, 1) := by decide +kernel
theorem d_M_reach_7 : decode y_M_reach.2.1 7 = .ok (.invokevirtual 421, 3) := by decide +kernel
theorem d_M_reach_10 : decode y_M_reach.2.1 10 = .ok (.invokevirtual 431, 3) := by decide +kernel
theorem d_M_reach_13 : decode y_M_reach.2.1 13 = .ok (.ifCond .ne 6, 3) := by decide +kernel
theorem d_M_reach_16 : decode y_M_reach.2.1 16 = .ok (.bipush (-3), 2) := by decide +kernel
theorem d_M_reach_18 : decode y_M_reach.2.1 18 = .ok (.ireturn, 1) := by decide +kernel
theorem d_M_reach_19 : decode y_M_reach.2.1 19 = .ok (.aload_n 0, 1) := by decide +kernel
theorem d_M_reach_20 : decode y_M_reach.2.1 20 = .ok (.iconst 0, 1) := by decide +kernel
theorem d_M_reach_21 : decode y_M_reach.2.1 21 = .ok (.putfield 11, 3) := by decide +kernel
theorem d_M_reach_24 : decode y_M_reach.2.1 24 = .ok (.aload_n 0, 1) := by decide +kernel
theorem d_M_reach_25 : decode y_M_reach.2.1 25 = .ok (.aload_n 0, 1) := by decide +kernel
theorem d_M_reach_26 : decode y_M_reach.2.1 26 = .ok (.invokevirtual 435, 3) := by decide +kernel
theorem d_M_reach_29 : decode y_M_reach.2.1 29 = .ok (.invokevirtual 236, 3) := by decide +kernel
theorem d_M_reach_32 : decode y_M_reach.2.1 32 = .ok (.aload_n 0, 1) := by decide +kernel
theorem d_M_reach_33 : decode y_M_reach.2.1 33 = .ok (.aload_n 0, 1) := by decide +kernel
theorem d_M_reach_34 : decode y_M_reach.2.1 34 = .ok (.getfield 404, 3) := by decide +kernel
theorem d_M_reach_37 : decode y_M_reach.2.1 37 = .ok (.aload_n 0, 1) := by decide +kernel
theorem d_M_reach_38 : decode y_M_reach.2.1 38 = .ok (.getfield 401, 3) := by decide +kernel
theorem d_M_reach_41 : decode y_M_reach.2.1 41 = .ok (.iconst 1, 1) := by decide +kernel
theorem d_M_reach_42 : decode y_M_reach.2.1 42 = .ok (.isub, 1) := by decide +kernel
theorem d_M_reach_43 : decode y_M_reach.2.1 43 = .ok (.iaload, 1) := by decide +kernel
theorem d_M_reach_44 : decode y_M_reach.2.1 44 = .ok (.invokevirtual 236, 3) := by decide +kernel
theorem d_M_reach_47 : decode y_M_reach.2.1 47 = .ok (.aload_n 0, 1) := by decide +kernel
theorem d_M_reach_48 : decode y_M_reach.2.1 48 = .ok (.getfield 401, 3) := by decide +kernel
theorem d_M_reach_51 : decode y_M_reach.2.1 51 = .ok (.ireturn, 1) := by decide +kernel
theorem d_M_tellsTo_0 : decode y_M_tellsTo.2.1 0 = .ok (.iload_n 1, 1) := by decide +kernel
theorem d_M_tellsTo_1 : decode y_M_tellsTo.2.1 1 = .ok (.istore_n 2, 1) := by decide +kernel
theorem d_M_tellsTo_2 : decode y_M_tellsTo.2.1 2 = .ok (.aload_n 0, 1) := by decide +kernel
theorem d_M_tellsTo_3 : decode y_M_tellsTo.2.1 3 = .ok (.getfield 404, 3) := by decide +kernel
theorem d_M_tellsTo_6 : decode y_M_tellsTo.2.1 6 = .ok (.iload_n 1, 1) := by decide +kernel
theorem d_M_tellsTo_7 : decode y_M_tellsTo.2.1 7 = .ok (.iaload, 1) := by decide +kernel
theorem d_M_tellsTo_8 : decode y_M_tellsTo.2.1 8 = .ok (.iconst 1, 1) := by decide +kernel
theorem d_M_tellsTo_9 : decode y_M_tellsTo.2.1 9 = .ok (.isub, 1) := by decide +kernel
theorem d_M_tellsTo_10 : decode y_M_tellsTo.2.1 10 = .ok (.istore_n 3, 1) := by decide +kernel
theorem d_M_tellsTo_11 : decode y_M_tellsTo.2.1 11 = .ok (.iload_n 3, 1) := by decide +kernel
theorem d_M_tellsTo_12 : decode y_M_tellsTo.2.1 12 = .ok (.ifCond .lt 28, 3) := by decide +kernel
theorem d_M_tellsTo_15 : decode y_M_tellsTo.2.1 15 = .ok (.aload_n 0, 1) := by decide +kernel
theorem d_M_tellsTo_16 : decode y_M_tellsTo.2.1 16 = .ok (.getfield 370, 3) := by decide +kernel
theorem d_M_tellsTo_19 : decode y_M_tellsTo.2.1 19 = .ok (.iload_n 3, 1) := by decide +kernel
theorem d_M_tellsTo_20 : decode y_M_tellsTo.2.1 20 = .ok (.aload_n 0, 1) := by decide +kernel
theorem d_M_tellsTo_21 : decode y_M_tellsTo.2.1 21 = .ok (.getfield 410, 3) := by decide +kernel
theorem d_M_tellsTo_24 : decode y_M_tellsTo.2.1 24 = .ok (.iload_n 2, 1) := by decide +kernel
theorem d_M_tellsTo_25 : decode y_M_tellsTo.2.1 25 = .ok (.iaload, 1) := by decide +kernel
theorem d_M_tellsTo_26 : decode y_M_tellsTo.2.1 26 = .ok (.iastore, 1) := by decide +kernel
theorem d_M_tellsTo_27 : decode y_M_tellsTo.2.1 27 = .ok (.aload_n 0, 1) := by decide +kernel
theorem d_M_tellsTo_28 : decode y_M_tellsTo.2.1 28 = .ok (.getfield 407, 3) := by decide +kernel
theorem d_M_tellsTo_31 : decode y_M_tellsTo.2.1 31 = .ok (.iload_n 2, 1) := by decide +kernel
theorem d_M_tellsTo_32 : decode y_M_tellsTo.2.1 32 = .ok (.iaload, 1) := by decide +kernel
theorem d_M_tellsTo_33 : decode y_M_tellsTo.2.1 33 = .ok (.istore_n 2, 1) := by decide +kernel
theorem d_M_tellsTo_34 : decode y_M_tellsTo.2.1 34 = .ok (.iinc 3 (-1), 3) := by decide +kernel
theorem d_M_tellsTo_37 : decode y_M_tellsTo.2.1 37 = .ok (.goto (-26), 3) := by decide +kernel
theorem d_M_tellsTo_40 : decode y_M_tellsTo.2.1 40 = .ok (.aload_n 0, 1) := by decide +kernel
theorem d_M_tellsTo_41 : decode y_M_tellsTo.2.1 41 = .ok (.iconst 0, 1) := by decide +kernel
theorem d_M_tellsTo_42 : decode y_M_tellsTo.2.1 42 = .ok (.putfield 11, 3) := by decide +kernel
theorem d_M_tellsTo_45 : decode y_M_tellsTo.2.1 45 = .ok (.iconst 0, 1) := by decide +kernel
theorem d_M_tellsTo_46 : decode y_M_tellsTo.2.1 46 = .ok (.istore_n 3, 1) := by decide +kernel
theorem d_M_tellsTo_47 : decode y_M_tellsTo.2.1 47 = .ok (.iload_n 3, 1) := by decide +kernel
theorem d_M_tellsTo_48 : decode y_M_tellsTo.2.1 48 = .ok (.aload_n 0, 1) := by decide +kernel
theorem d_M_tellsTo_49 : decode y_M_tellsTo.2.1 49 = .ok (.getfield 404, 3) := by decide +kernel
theorem d_M_tellsTo_52 : decode y_M_tellsTo.2.1 52 = .ok (.iload_n 1, 1) := by decide +kernel
theorem d_M_tellsTo_53 : decode y_M_tellsTo.2.1 53 = .ok (.iaload, 1) := by decide +kernel
theorem d_M_tellsTo_54 : decode y_M_tellsTo.2.1 54 = .ok (.if_icmp .ge 25, 3) := by decide +kernel
theorem d_M_tellsTo_57 : decode y_M_tellsTo.2.1 57 = .ok (.iload_n 3, 1) := by decide +kernel
theorem d_M_tellsTo_58 : decode y_M_tellsTo.2.1 58 = .ok (.bipush 10, 2) := by decide +kernel
theorem d_M_tellsTo_60 : decode y_M_tellsTo.2.1 60 = .ok (.if_icmp .ge 19, 3) := by decide +kernel
theorem d_M_tellsTo_63 : decode y_M_tellsTo.2.1 63 = .ok (.aload_n 0, 1) := by decide +kernel
theorem d_M_tellsTo_64 : decode y_M_tellsTo.2.1 64 = .ok (.aload_n 0, 1) := by decide +kernel
theorem d_M_tellsTo_65 : decode y_M_tellsTo.2.1 65 = .ok (.getfield 370, 3) := by decide +kernel
theorem d_M_tellsTo_68 : decode y_M_tellsTo.2.1 68 = .ok (.iload_n 3, 1) := by decide +kernel
theorem d_M_tellsTo_69 : decode y_M_tellsTo.2.1 69 = .ok (.iaload, 1) := by decide +kernel
theorem d_M_tellsTo_70 : decode y_M_tellsTo.2.1 70 = .ok (.invokevirtual 236, 3) := by decide +kernel
theorem d_M_tellsTo_73 : decode y_M_tellsTo.2.1 73 = .ok (.iinc 3 1, 3) := by decide +kernel
theorem d_M_tellsTo_76 : decode y_M_tellsTo.2.1 76 = .ok (.goto (-29), 3) := by decide +kernel
theorem d_M_tellsTo_79 : decode y_M_tellsTo.2.1 79 = .ok (.aload_n 0, 1) := by decide +kernel
theorem d_M_tellsTo_80 : decode y_M_tellsTo.2.1 80 = .ok (.getfield 404, 3) := by decide +kernel
theorem d_M_tellsTo_83 : decode y_M_tellsTo.2.1 83 = .ok (.iload_n 1, 1) := by decide +kernel
theorem d_M_tellsTo_84 : decode y_M_tellsTo.2.1 84 = .ok (.iaload, 1) := by decide +kernel
theorem d_M_tellsTo_85 : decode y_M_tellsTo.2.1 85 = .ok (.ireturn, 1) := by decide +kernel
theorem d_M_soonest_0 : decode y_M_soonest.2.1 0 = .ok (.aload_n 0, 1) := by decide +kernel
theorem d_M_soonest_1 : decode y_M_soonest.2.1 1 = .ok (.iconst 0, 1) := by decide +kernel
theorem d_M_soonest_2 : decode y_M_soonest.2.1 2 = .ok (.putfield 3, 3) := by decide +kernel
theorem d_M_soonest_5 : decode y_M_soonest.2.1 5 = .ok (.aload_n 0, 1) := by decide +kernel
theorem d_M_soonest_6 : decode y_M_soonest.2.1 6 = .ok (.iload_n 1, 1) := by decide +kernel
theorem d_M_soonest_7 : decode y_M_soonest.2.1 7 = .ok (.invokevirtual 189, 3) := by decide +kernel
theorem d_M_soonest_10 : decode y_M_soonest.2.1 10 = .ok (.ifCond .ne 5, 3) := by decide +kernel
theorem d_M_soonest_13 : decode y_M_soonest.2.1 13 = .ok (.iconst (-1), 1) := by decide +kernel
theorem d_M_soonest_14 : decode y_M_soonest.2.1 14 = .ok (.ireturn, 1) := by decide +kernel
theorem d_M_soonest_15 : decode y_M_soonest.2.1 15 = .ok (.aload_n 0, 1) := by decide +kernel
theorem d_M_soonest_16 : decode y_M_soonest.2.1 16 = .ok (.aload_n 0, 1) := by decide +kernel
theorem d_M_soonest_17 : decode y_M_soonest.2.1 17 = .ok (.invokevirtual 421, 3) := by decide +kernel
theorem d_M_soonest_20 : decode y_M_soonest.2.1 20 = .ok (.invokevirtual 431, 3) := by decide +kernel
theorem d_M_soonest_23 : decode y_M_soonest.2.1 23 = .ok (.ifCond .ne 6, 3) := by decide +kernel
theorem d_M_soonest_26 : decode y_M_soonest.2.1 26 = .ok (.bipush (-3), 2) := by decide +kernel
theorem d_M_soonest_28 : decode y_M_soonest.2.1 28 = .ok (.ireturn, 1) := by decide +kernel
theorem d_M_soonest_29 : decode y_M_soonest.2.1 29 = .ok (.iconst 0, 1) := by decide +kernel
theorem d_M_soonest_30 : decode y_M_soonest.2.1 30 = .ok (.istore_n 2, 1) := by decide +kernel
theorem d_M_soonest_31 : decode y_M_soonest.2.1 31 = .ok (.iload_n 2, 1) := by decide +kernel
theorem d_M_soonest_32 : decode y_M_soonest.2.1 32 = .ok (.aload_n 0, 1) := by decide +kernel
theorem d_M_soonest_33 : decode y_M_soonest.2.1 33 = .ok (.getfield 401, 3) := by decide +kernel
theorem d_M_soonest_36 : decode y_M_soonest.2.1 36 = .ok (.if_icmp .ge 31, 3) := by decide +kernel
theorem d_M_soonest_39 : decode y_M_soonest.2.1 39 = .ok (.aload_n 0, 1) := by decide +kernel
theorem d_M_soonest_40 : decode y_M_soonest.2.1 40 = .ok (.getfield 393, 3) := by decide +kernel
theorem d_M_soonest_43 : decode y_M_soonest.2.1 43 = .ok (.iload_n 2, 1) := by decide +kernel
theorem d_M_soonest_44 : decode y_M_soonest.2.1 44 = .ok (.laload, 1) := by decide +kernel
theorem d_M_soonest_45 : decode y_M_soonest.2.1 45 = .ok (.invokestatic 428, 3) := by decide +kernel
theorem d_M_soonest_48 : decode y_M_soonest.2.1 48 = .ok (.iload_n 1, 1) := by decide +kernel
theorem d_M_soonest_49 : decode y_M_soonest.2.1 49 = .ok (.invokestatic 29, 3) := by decide +kernel
theorem d_M_soonest_52 : decode y_M_soonest.2.1 52 = .ok (.ifCond .eq 9, 3) := by decide +kernel
theorem d_M_soonest_55 : decode y_M_soonest.2.1 55 = .ok (.aload_n 0, 1) := by decide +kernel
theorem d_M_soonest_56 : decode y_M_soonest.2.1 56 = .ok (.iload_n 2, 1) := by decide +kernel
theorem d_M_soonest_57 : decode y_M_soonest.2.1 57 = .ok (.invokevirtual 438, 3) := by decide +kernel
theorem d_M_soonest_60 : decode y_M_soonest.2.1 60 = .ok (.ireturn, 1) := by decide +kernel
theorem d_M_soonest_61 : decode y_M_soonest.2.1 61 = .ok (.iinc 2 1, 3) := by decide +kernel
theorem d_M_soonest_64 : decode y_M_soonest.2.1 64 = .ok (.goto (-33), 3) := by decide +kernel
theorem d_M_soonest_67 : decode y_M_soonest.2.1 67 = .ok (.bipush (-2), 2) := by decide +kernel
theorem d_M_soonest_69 : decode y_M_soonest.2.1 69 = .ok (.ireturn, 1) := by decide +kernel
theorem d_M_till_0 : decode y_M_till.2.1 0 = .ok (.aload_n 0, 1) := by decide +kernel
theorem d_M_till_1 : decode y_M_till.2.1 1 = .ok (.iconst 0, 1) := by decide +kernel
theorem d_M_till_2 : decode y_M_till.2.1 2 = .ok (.putfield 3, 3) := by decide +kernel
theorem d_M_till_5 : decode y_M_till.2.1 5 = .ok (.aload_n 0, 1) := by decide +kernel
theorem d_M_till_6 : decode y_M_till.2.1 6 = .ok (.iload_n 1, 1) := by decide +kernel
theorem d_M_till_7 : decode y_M_till.2.1 7 = .ok (.invokevirtual 239, 3) := by decide +kernel
theorem d_M_till_10 : decode y_M_till.2.1 10 = .ok (.ifCond .eq 33, 3) := by decide +kernel
theorem d_M_till_13 : decode y_M_till.2.1 13 = .ok (.aload_n 0, 1) := by decide +kernel
theorem d_M_till_14 : decode y_M_till.2.1 14 = .ok (.iload_n 2, 1) := by decide +kernel
theorem d_M_till_15 : decode y_M_till.2.1 15 = .ok (.invokevirtual 239, 3) := by decide +kernel
theorem d_M_till_18 : decode y_M_till.2.1 18 = .ok (.ifCond .eq 25, 3) := by decide +kernel
theorem d_M_till_21 : decode y_M_till.2.1 21 = .ok (.aload_n 0, 1) := by decide +kernel
theorem d_M_till_22 : decode y_M_till.2.1 22 = .ok (.iload_n 3, 1) := by decide +kernel
theorem d_M_till_23 : decode y_M_till.2.1 23 = .ok (.invokevirtual 239, 3) := by decide +kernel
theorem d_M_till_26 : decode y_M_till.2.1 26 = .ok (.ifCond .eq 17, 3) := by decide +kernel
theorem d_M_till_29 : decode y_M_till.2.1 29 = .ok (.iload_n 1, 1) := by decide +kernel
theorem d_M_till_30 : decode y_M_till.2.1 30 = .ok (.iload_n 2, 1) := by decide +kernel
theorem d_M_till_31 : decode y_M_till.2.1 31 = .ok (.iand, 1) := by decide +kernel
theorem d_M_till_32 : decode y_M_till.2.1 32 = .ok (.ifCond .ne 11, 3) := by decide +kernel
theorem d_M_till_35 : decode y_M_till.2.1 35 = .ok (.iload_n 1, 1) := by decide +kernel
theorem d_M_till_36 : decode y_M_till.2.1 36 = .ok (.iload_n 2, 1) := by decide +kernel
theorem d_M_till_37 : decode y_M_till.2.1 37 = .ok (.ior, 1) := by decide +kernel
theorem d_M_till_38 : decode y_M_till.2.1 38 = .ok (.iload_n 3, 1) := by decide +kernel
theorem d_M_till_39 : decode y_M_till.2.1 39 = .ok (.iand, 1) := by decide +kernel
theorem d_M_till_40 : decode y_M_till.2.1 40 = .ok (.ifCond .eq 5, 3) := by decide +kernel
theorem d_M_till_43 : decode y_M_till.2.1 43 = .ok (.iconst (-1), 1) := by decide +kernel
theorem d_M_till_44 : decode y_M_till.2.1 44 = .ok (.ireturn, 1) := by decide +kernel
theorem d_M_till_45 : decode y_M_till.2.1 45 = .ok (.aload_n 0, 1) := by decide +kernel
theorem d_M_till_46 : decode y_M_till.2.1 46 = .ok (.aload_n 0, 1) := by decide +kernel
theorem d_M_till_47 : decode y_M_till.2.1 47 = .ok (.invokevirtual 421, 3) := by decide +kernel
theorem d_M_till_50 : decode y_M_till.2.1 50 = .ok (.invokevirtual 431, 3) := by decide +kernel
theorem d_M_till_53 : decode y_M_till.2.1 53 = .ok (.ifCond .ne 6, 3) := by decide +kernel
theorem d_M_till_56 : decode y_M_till.2.1 56 = .ok (.bipush (-3), 2) := by decide +kernel
theorem d_M_till_58 : decode y_M_till.2.1 58 = .ok (.ireturn, 1) := by decide +kernel
theorem d_M_till_59 : decode y_M_till.2.1 59 = .ok (.aload_n 0, 1) := by decide +kernel
theorem d_M_till_60 : decode y_M_till.2.1 60 = .ok (.getfield 390, 3) := by decide +kernel
theorem d_M_till_63 : decode y_M_till.2.1 63 = .ok (.aload_n 0, 1) := by decide +kernel
theorem d_M_till_64 : decode y_M_till.2.1 64 = .ok (.iload_n 1, 1) := by decide +kernel
theorem d_M_till_65 : decode y_M_till.2.1 65 = .ok (.i2l, 1) := by decide +kernel
theorem d_M_till_66 : decode y_M_till.2.1 66 = .ok (.iload_n 2, 1) := by decide +kernel
theorem d_M_till_67 : decode y_M_till.2.1 67 = .ok (.i2l, 1) := by decide +kernel
theorem d_M_till_68 : decode y_M_till.2.1 68 = .ok (.bipush 12, 2) := by decide +kernel
theorem d_M_till_70 : decode y_M_till.2.1 70 = .ok (.lshl, 1) := by decide +kernel
theorem d_M_till_71 : decode y_M_till.2.1 71 = .ok (.lor, 1) := by decide +kernel
theorem d_M_till_72 : decode y_M_till.2.1 72 = .ok (.iload_n 3, 1) := by decide +kernel
theorem d_M_till_73 : decode y_M_till.2.1 73 = .ok (.i2l, 1) := by decide +kernel
theorem d_M_till_74 : decode y_M_till.2.1 74 = .ok (.bipush 24, 2) := by decide +kernel
theorem d_M_till_76 : decode y_M_till.2.1 76 = .ok (.lshl, 1) := by decide +kernel
theorem d_M_till_77 : decode y_M_till.2.1 77 = .ok (.lor, 1) := by decide +kernel
theorem d_M_till_78 : decode y_M_till.2.1 78 = .ok (.invokevirtual 397, 3) := by decide +kernel
theorem d_M_till_81 : decode y_M_till.2.1 81 = .ok (.iaload, 1) := by decide +kernel
theorem d_M_till_82 : decode y_M_till.2.1 82 = .ok (.istore 4, 2) := by decide +kernel
theorem d_M_till_84 : decode y_M_till.2.1 84 = .ok (.iload 4, 2) := by decide +kernel
theorem d_M_till_86 : decode y_M_till.2.1 86 = .ok (.ifCond .ge 8, 3) := by decide +kernel
theorem d_M_till_89 : decode y_M_till.2.1 89 = .ok (.bipush (-2), 2) := by decide +kernel
theorem d_M_till_91 : decode y_M_till.2.1 91 = .ok (.goto 9, 3) := by decide +kernel
theorem d_M_till_94 : decode y_M_till.2.1 94 = .ok (.aload_n 0, 1) := by decide +kernel
theorem d_M_till_95 : decode y_M_till.2.1 95 = .ok (.iload 4, 2) := by decide +kernel
theorem d_M_till_97 : decode y_M_till.2.1 97 = .ok (.invokevirtual 438, 3) := by decide +kernel
theorem d_M_till_100 : decode y_M_till.2.1 100 = .ok (.ireturn, 1) := by decide +kernel
theorem d_M_lost_0 : decode y_M_lost.2.1 0 = .ok (.aload_n 0, 1) := by decide +kernel
theorem d_M_lost_1 : decode y_M_lost.2.1 1 = .ok (.iconst 0, 1) := by decide +kernel
theorem d_M_lost_2 : decode y_M_lost.2.1 2 = .ok (.putfield 3, 3) := by decide +kernel
theorem d_M_lost_5 : decode y_M_lost.2.1 5 = .ok (.iconst 0, 1) := by decide +kernel
theorem d_M_lost_6 : decode y_M_lost.2.1 6 = .ok (.istore_n 1, 1) := by decide +kernel
theorem d_M_lost_7 : decode y_M_lost.2.1 7 = .ok (.aload_n 0, 1) := by decide +kernel
theorem d_M_lost_8 : decode y_M_lost.2.1 8 = .ok (.invokevirtual 421, 3) := by decide +kernel
theorem d_M_lost_11 : decode y_M_lost.2.1 11 = .ok (.lstore_n 2, 1) := by decide +kernel
theorem d_M_lost_12 : decode y_M_lost.2.1 12 = .ok (.iconst 0, 1) := by decide +kernel
theorem d_M_lost_13 : decode y_M_lost.2.1 13 = .ok (.istore 4, 2) := by decide +kernel
theorem d_M_lost_15 : decode y_M_lost.2.1 15 = .ok (.iload 4, 2) := by decide +kernel
theorem d_M_lost_17 : decode y_M_lost.2.1 17 = .ok (.aload_n 0, 1) := by decide +kernel
theorem d_M_lost_18 : decode y_M_lost.2.1 18 = .ok (.getfield 14, 3) := by decide +kernel
theorem d_M_lost_21 : decode y_M_lost.2.1 21 = .ok (.if_icmp .ge 88, 3) := by decide +kernel
theorem d_M_lost_24 : decode y_M_lost.2.1 24 = .ok (.aload_n 0, 1) := by decide +kernel
theorem d_M_lost_25 : decode y_M_lost.2.1 25 = .ok (.iload 4, 2) := by decide +kernel
theorem d_M_lost_27 : decode y_M_lost.2.1 27 = .ok (.invokevirtual 183, 3) := by decide +kernel
theorem d_M_lost_30 : decode y_M_lost.2.1 30 = .ok (.istore 5, 2) := by decide +kernel
theorem d_M_lost_32 : decode y_M_lost.2.1 32 = .ok (.iload 5, 2) := by decide +kernel
theorem d_M_lost_34 : decode y_M_lost.2.1 34 = .ok (.ifCond .ge 6, 3) := by decide +kernel
theorem d_M_lost_37 : decode y_M_lost.2.1 37 = .ok (.goto 66, 3) := by decide +kernel
theorem d_M_lost_40 : decode y_M_lost.2.1 40 = .ok (.aload_n 0, 1) := by decide +kernel
theorem d_M_lost_41 : decode y_M_lost.2.1 41 = .ok (.iload 4, 2) := by decide +kernel
theorem d_M_lost_43 : decode y_M_lost.2.1 43 = .ok (.invokevirtual 220, 3) := by decide +kernel
theorem d_M_lost_46 : decode y_M_lost.2.1 46 = .ok (.pop, 1) := by decide +kernel
theorem d_M_lost_47 : decode y_M_lost.2.1 47 = .ok (.aload_n 0, 1) := by decide +kernel
theorem d_M_lost_48 : decode y_M_lost.2.1 48 = .ok (.invokevirtual 421, 3) := by decide +kernel
theorem d_M_lost_51 : decode y_M_lost.2.1 51 = .ok (.lstore 6, 2) := by decide +kernel
theorem d_M_lost_53 : decode y_M_lost.2.1 53 = .ok (.aload_n 0, 1) := by decide +kernel
theorem d_M_lost_54 : decode y_M_lost.2.1 54 = .ok (.lload_n 2, 1) := by decide +kernel
theorem d_M_lost_55 : decode y_M_lost.2.1 55 = .ok (.invokevirtual 417, 3) := by decide +kernel
theorem d_M_lost_58 : decode y_M_lost.2.1 58 = .ok (.aload_n 0, 1) := by decide +kernel
theorem d_M_lost_59 : decode y_M_lost.2.1 59 = .ok (.lload 6, 2) := by decide +kernel
theorem d_M_lost_61 : decode y_M_lost.2.1 61 = .ok (.invokevirtual 431, 3) := by decide +kernel
theorem d_M_lost_64 : decode y_M_lost.2.1 64 = .ok (.ifCond .ne 11, 3) := by decide +kernel
theorem d_M_lost_67 : decode y_M_lost.2.1 67 = .ok (.aload_n 0, 1) := by decide +kernel
theorem d_M_lost_68 : decode y_M_lost.2.1 68 = .ok (.lload_n 2, 1) := by decide +kernel
theorem d_M_lost_69 : decode y_M_lost.2.1 69 = .ok (.invokevirtual 417, 3) := by decide +kernel
theorem d_M_lost_72 : decode y_M_lost.2.1 72 = .ok (.bipush (-3), 2) := by decide +kernel
theorem d_M_lost_74 : decode y_M_lost.2.1 74 = .ok (.ireturn, 1) := by decide +kernel
theorem d_M_lost_75 : decode y_M_lost.2.1 75 = .ok (.aload_n 0, 1) := by decide +kernel
theorem d_M_lost_76 : decode y_M_lost.2.1 76 = .ok (.lload_n 2, 1) := by decide +kernel
theorem d_M_lost_77 : decode y_M_lost.2.1 77 = .ok (.invokevirtual 417, 3) := by decide +kernel
theorem d_M_lost_80 : decode y_M_lost.2.1 80 = .ok (.iload_n 1, 1) := by decide +kernel
theorem d_M_lost_81 : decode y_M_lost.2.1 81 = .ok (.aload_n 0, 1) := by decide +kernel
theorem d_M_lost_82 : decode y_M_lost.2.1 82 = .ok (.invokevirtual 435, 3) := by decide +kernel
theorem d_M_lost_85 : decode y_M_lost.2.1 85 = .ok (.iload 4, 2) := by decide +kernel
theorem d_M_lost_87 : decode y_M_lost.2.1 87 = .ok (.invokestatic 29, 3) := by decide +kernel
theorem d_M_lost_90 : decode y_M_lost.2.1 90 = .ok (.ifCond .eq 7, 3) := by decide +kernel
theorem d_M_lost_93 : decode y_M_lost.2.1 93 = .ok (.iconst 0, 1) := by decide +kernel
theorem d_M_lost_94 : decode y_M_lost.2.1 94 = .ok (.goto 7, 3) := by decide +kernel
theorem d_M_lost_97 : decode y_M_lost.2.1 97 = .ok (.iconst 1, 1) := by decide +kernel
theorem d_M_lost_98 : decode y_M_lost.2.1 98 = .ok (.iload 4, 2) := by decide +kernel
theorem d_M_lost_100 : decode y_M_lost.2.1 100 = .ok (.ishl, 1) := by decide +kernel
theorem d_M_lost_101 : decode y_M_lost.2.1 101 = .ok (.ior, 1) := by decide +kernel
theorem d_M_lost_102 : decode y_M_lost.2.1 102 = .ok (.istore_n 1, 1) := by decide +kernel
theorem d_M_lost_103 : decode y_M_lost.2.1 103 = .ok (.iinc 4 1, 3) := by decide +kernel
theorem d_M_lost_106 : decode y_M_lost.2.1 106 = .ok (.goto (-91), 3) := by decide +kernel
theorem d_M_lost_109 : decode y_M_lost.2.1 109 = .ok (.iload_n 1, 1) := by decide +kernel
theorem d_M_lost_110 : decode y_M_lost.2.1 110 = .ok (.ireturn, 1) := by decide +kernel
theorem d_M_free_0 : decode y_M_free.2.1 0 = .ok (.aload_n 0, 1) := by decide +kernel
theorem d_M_free_1 : decode y_M_free.2.1 1 = .ok (.iconst 0, 1) := by decide +kernel
theorem d_M_free_2 : decode y_M_free.2.1 2 = .ok (.putfield 3, 3) := by decide +kernel
theorem d_M_free_5 : decode y_M_free.2.1 5 = .ok (.aload_n 0, 1) := by decide +kernel
theorem d_M_free_6 : decode y_M_free.2.1 6 = .ok (.aload_n 0, 1) := by decide +kernel
theorem d_M_free_7 : decode y_M_free.2.1 7 = .ok (.invokevirtual 421, 3) := by decide +kernel
theorem d_M_free_10 : decode y_M_free.2.1 10 = .ok (.invokevirtual 431, 3) := by decide +kernel
theorem d_M_free_13 : decode y_M_free.2.1 13 = .ok (.ifCond .ne 6, 3) := by decide +kernel
theorem d_M_free_16 : decode y_M_free.2.1 16 = .ok (.bipush (-3), 2) := by decide +kernel
theorem d_M_free_18 : decode y_M_free.2.1 18 = .ok (.ireturn, 1) := by decide +kernel
theorem d_M_free_19 : decode y_M_free.2.1 19 = .ok (.iconst 0, 1) := by decide +kernel
theorem d_M_free_20 : decode y_M_free.2.1 20 = .ok (.istore_n 1, 1) := by decide +kernel
theorem d_M_free_21 : decode y_M_free.2.1 21 = .ok (.iload_n 1, 1) := by decide +kernel
theorem d_M_free_22 : decode y_M_free.2.1 22 = .ok (.aload_n 0, 1) := by decide +kernel
theorem d_M_free_23 : decode y_M_free.2.1 23 = .ok (.getfield 401, 3) := by decide +kernel
theorem d_M_free_26 : decode y_M_free.2.1 26 = .ok (.if_icmp .ge 24, 3) := by decide +kernel
theorem d_M_free_29 : decode y_M_free.2.1 29 = .ok (.aload_n 0, 1) := by decide +kernel
theorem d_M_free_30 : decode y_M_free.2.1 30 = .ok (.getfield 441, 3) := by decide +kernel
theorem d_M_free_33 : decode y_M_free.2.1 33 = .ok (.iload_n 1, 1) := by decide +kernel
theorem d_M_free_34 : decode y_M_free.2.1 34 = .ok (.aload_n 0, 1) := by decide +kernel
theorem d_M_free_35 : decode y_M_free.2.1 35 = .ok (.getfield 393, 3) := by decide +kernel
theorem d_M_free_38 : decode y_M_free.2.1 38 = .ok (.iload_n 1, 1) := by decide +kernel
theorem d_M_free_39 : decode y_M_free.2.1 39 = .ok (.laload, 1) := by decide +kernel
theorem d_M_free_40 : decode y_M_free.2.1 40 = .ok (.invokestatic 428, 3) := by decide +kernel
theorem d_M_free_43 : decode y_M_free.2.1 43 = .ok (.iastore, 1) := by decide +kernel
theorem d_M_free_44 : decode y_M_free.2.1 44 = .ok (.iinc 1 1, 3) := by decide +kernel
theorem d_M_free_47 : decode y_M_free.2.1 47 = .ok (.goto (-26), 3) := by decide +kernel
theorem d_M_free_50 : decode y_M_free.2.1 50 = .ok (.iconst 1, 1) := by decide +kernel
theorem d_M_free_51 : decode y_M_free.2.1 51 = .ok (.istore_n 1, 1) := by decide +kernel
theorem d_M_free_52 : decode y_M_free.2.1 52 = .ok (.iload_n 1, 1) := by decide +kernel
theorem d_M_free_53 : decode y_M_free.2.1 53 = .ok (.ifCond .eq 110, 3) := by decide +kernel
theorem d_M_free_56 : decode y_M_free.2.1 56 = .ok (.iconst 0, 1) := by decide +kernel
theorem d_M_free_57 : decode y_M_free.2.1 57 = .ok (.istore_n 1, 1) := by decide +kernel
theorem d_M_free_58 : decode y_M_free.2.1 58 = .ok (.aload_n 0, 1) := by decide +kernel
theorem d_M_free_59 : decode y_M_free.2.1 59 = .ok (.getfield 401, 3) := by decide +kernel
theorem d_M_free_62 : decode y_M_free.2.1 62 = .ok (.iconst 1, 1) := by decide +kernel
theorem d_M_free_63 : decode y_M_free.2.1 63 = .ok (.isub, 1) := by decide +kernel
theorem d_M_free_64 : decode y_M_free.2.1 64 = .ok (.istore_n 2, 1) := by decide +kernel
theorem d_M_free_65 : decode y_M_free.2.1 65 = .ok (.iload_n 2, 1) := by decide +kernel
theorem d_M_free_66 : decode y_M_free.2.1 66 = .ok (.ifCond .lt 94, 3) := by decide +kernel
theorem d_M_free_69 : decode y_M_free.2.1 69 = .ok (.aload_n 0, 1) := by decide +kernel
theorem d_M_free_70 : decode y_M_free.2.1 70 = .ok (.getfield 441, 3) := by decide +kernel
theorem d_M_free_73 : decode y_M_free.2.1 73 = .ok (.iload_n 2, 1) := by decide +kernel
theorem d_M_free_74 : decode y_M_free.2.1 74 = .ok (.iaload, 1) := by decide +kernel
theorem d_M_free_75 : decode y_M_free.2.1 75 = .ok (.istore_n 3, 1) := by decide +kernel
theorem d_M_free_76 : decode y_M_free.2.1 76 = .ok (.iconst 0, 1) := by decide +kernel
theorem d_M_free_77 : decode y_M_free.2.1 77 = .ok (.istore 4, 2) := by decide +kernel
theorem d_M_free_79 : decode y_M_free.2.1 79 = .ok (.iload 4, 2) := by decide +kernel
theorem d_M_free_81 : decode y_M_free.2.1 81 = .ok (.bipush 36, 2) := by decide +kernel
theorem d_M_free_83 : decode y_M_free.2.1 83 = .ok (.if_icmp .ge 44, 3) := by decide +kernel
theorem d_M_free_86 : decode y_M_free.2.1 86 = .ok (.aload_n 0, 1) := by decide +kernel
theorem d_M_free_87 : decode y_M_free.2.1 87 = .ok (.getfield 425, 3) := by decide +kernel
theorem d_M_free_90 : decode y_M_free.2.1 90 = .ok (.bipush 36, 2) := by decide +kernel
theorem d_M_free_92 : decode y_M_free.2.1 92 = .ok (.iload_n 2, 1) := by decide +kernel
theorem d_M_free_93 : decode y_M_free.2.1 93 = .ok (.imul, 1) := by decide +kernel
theorem d_M_free_94 : decode y_M_free.2.1 94 = .ok (.iload 4, 2) := by decide +kernel
theorem d_M_free_96 : decode y_M_free.2.1 96 = .ok (.iadd, 1) := by decide +kernel
theorem d_M_free_97 : decode y_M_free.2.1 97 = .ok (.iaload, 1) := by decide +kernel
theorem d_M_free_98 : decode y_M_free.2.1 98 = .ok (.ifCond .lt 29, 3) := by decide +kernel
theorem d_M_free_101 : decode y_M_free.2.1 101 = .ok (.iload_n 3, 1) := by decide +kernel
theorem d_M_free_102 : decode y_M_free.2.1 102 = .ok (.aload_n 0, 1) := by decide +kernel
theorem d_M_free_103 : decode y_M_free.2.1 103 = .ok (.getfield 441, 3) := by decide +kernel
theorem d_M_free_106 : decode y_M_free.2.1 106 = .ok (.aload_n 0, 1) := by decide +kernel
theorem d_M_free_107 : decode y_M_free.2.1 107 = .ok (.getfield 425, 3) := by decide +kernel
theorem d_M_free_110 : decode y_M_free.2.1 110 = .ok (.bipush 36, 2) := by decide +kernel
theorem d_M_free_112 : decode y_M_free.2.1 112 = .ok (.iload_n 2, 1) := by decide +kernel
theorem d_M_free_113 : decode y_M_free.2.1 113 = .ok (.imul, 1) := by decide +kernel
theorem d_M_free_114 : decode y_M_free.2.1 114 = .ok (.iload 4, 2) := by decide +kernel
theorem d_M_free_116 : decode y_M_free.2.1 116 = .ok (.iadd, 1) := by decide +kernel
theorem d_M_free_117 : decode y_M_free.2.1 117 = .ok (.iaload, 1) := by decide +kernel
theorem d_M_free_118 : decode y_M_free.2.1 118 = .ok (.iaload, 1) := by decide +kernel
theorem d_M_free_119 : decode y_M_free.2.1 119 = .ok (.ior, 1) := by decide +kernel
theorem d_M_free_120 : decode y_M_free.2.1 120 = .ok (.istore_n 3, 1) := by decide +kernel
theorem d_M_free_121 : decode y_M_free.2.1 121 = .ok (.iinc 4 1, 3) := by decide +kernel
theorem d_M_free_124 : decode y_M_free.2.1 124 = .ok (.goto (-45), 3) := by decide +kernel
theorem d_M_free_127 : decode y_M_free.2.1 127 = .ok (.iload_n 1, 1) := by decide +kernel
theorem d_M_free_128 : decode y_M_free.2.1 128 = .ok (.ifCond .ne 13, 3) := by decide +kernel
theorem d_M_free_131 : decode y_M_free.2.1 131 = .ok (.iload_n 3, 1) := by decide +kernel
theorem d_M_free_132 : decode y_M_free.2.1 132 = .ok (.aload_n 0, 1) := by decide +kernel
theorem d_M_free_133 : decode y_M_free.2.1 133 = .ok (.getfield 441, 3) := by decide +kernel
theorem d_M_free_136 : decode y_M_free.2.1 136 = .ok (.iload_n 2, 1) := by decide +kernel
theorem d_M_free_137 : decode y_M_free.2.1 137 = .ok (.iaload, 1) := by decide +kernel
theorem d_M_free_138 : decode y_M_free.2.1 138 = .ok (.if_icmp .eq 7, 3) := by decide +kernel
theorem d_M_free_141 : decode y_M_free.2.1 141 = .ok (.iconst 1, 1) := by decide +kernel
theorem d_M_free_142 : decode y_M_free.2.1 142 = .ok (.goto 4, 3) := by decide +kernel
theorem d_M_free_145 : decode y_M_free.2.1 145 = .ok (.iconst 0, 1) := by decide +kernel
theorem d_M_free_146 : decode y_M_free.2.1 146 = .ok (.istore_n 1, 1) := by decide +kernel
theorem d_M_free_147 : decode y_M_free.2.1 147 = .ok (.aload_n 0, 1) := by decide +kernel
theorem d_M_free_148 : decode y_M_free.2.1 148 = .ok (.getfield 441, 3) := by decide +kernel
theorem d_M_free_151 : decode y_M_free.2.1 151 = .ok (.iload_n 2, 1) := by decide +kernel
theorem d_M_free_152 : decode y_M_free.2.1 152 = .ok (.iload_n 3, 1) := by decide +kernel
theorem d_M_free_153 : decode y_M_free.2.1 153 = .ok (.iastore, 1) := by decide +kernel
theorem d_M_free_154 : decode y_M_free.2.1 154 = .ok (.iinc 2 (-1), 3) := by decide +kernel
theorem d_M_free_157 : decode y_M_free.2.1 157 = .ok (.goto (-92), 3) := by decide +kernel
theorem d_M_free_160 : decode y_M_free.2.1 160 = .ok (.goto (-108), 3) := by decide +kernel
theorem d_M_free_163 : decode y_M_free.2.1 163 = .ok (.aload_n 0, 1) := by decide +kernel
theorem d_M_free_164 : decode y_M_free.2.1 164 = .ok (.invokevirtual 435, 3) := by decide +kernel
theorem d_M_free_167 : decode y_M_free.2.1 167 = .ok (.istore_n 2, 1) := by decide +kernel
theorem d_M_free_168 : decode y_M_free.2.1 168 = .ok (.aload_n 0, 1) := by decide +kernel
theorem d_M_free_169 : decode y_M_free.2.1 169 = .ok (.iconst 0, 1) := by decide +kernel
theorem d_M_free_170 : decode y_M_free.2.1 170 = .ok (.putfield 11, 3) := by decide +kernel
theorem d_M_free_173 : decode y_M_free.2.1 173 = .ok (.iconst 0, 1) := by decide +kernel
theorem d_M_free_174 : decode y_M_free.2.1 174 = .ok (.istore_n 3, 1) := by decide +kernel
theorem d_M_free_175 : decode y_M_free.2.1 175 = .ok (.iload_n 3, 1) := by decide +kernel
theorem d_M_free_176 : decode y_M_free.2.1 176 = .ok (.aload_n 0, 1) := by decide +kernel
theorem d_M_free_177 : decode y_M_free.2.1 177 = .ok (.getfield 401, 3) := by decide +kernel
theorem d_M_free_180 : decode y_M_free.2.1 180 = .ok (.if_icmp .ge 45, 3) := by decide +kernel
theorem d_M_free_183 : decode y_M_free.2.1 183 = .ok (.aload_n 0, 1) := by decide +kernel
theorem d_M_free_184 : decode y_M_free.2.1 184 = .ok (.getfield 441, 3) := by decide +kernel
theorem d_M_free_187 : decode y_M_free.2.1 187 = .ok (.iload_n 3, 1) := by decide +kernel
theorem d_M_free_188 : decode y_M_free.2.1 188 = .ok (.iaload, 1) := by decide +kernel
theorem d_M_free_189 : decode y_M_free.2.1 189 = .ok (.iload_n 2, 1) := by decide +kernel
theorem d_M_free_190 : decode y_M_free.2.1 190 = .ok (.if_icmp .eq 29, 3) := by decide +kernel
theorem d_M_free_193 : decode y_M_free.2.1 193 = .ok (.aload_n 0, 1) := by decide +kernel
theorem d_M_free_194 : decode y_M_free.2.1 194 = .ok (.aload_n 0, 1) := by decide +kernel
theorem d_M_free_195 : decode y_M_free.2.1 195 = .ok (.getfield 404, 3) := by decide +kernel
theorem d_M_free_198 : decode y_M_free.2.1 198 = .ok (.iload_n 3, 1) := by decide +kernel
theorem d_M_free_199 : decode y_M_free.2.1 199 = .ok (.iaload, 1) := by decide +kernel
theorem d_M_free_200 : decode y_M_free.2.1 200 = .ok (.invokevirtual 236, 3) := by decide +kernel
theorem d_M_free_203 : decode y_M_free.2.1 203 = .ok (.aload_n 0, 1) := by decide +kernel
theorem d_M_free_204 : decode y_M_free.2.1 204 = .ok (.iload_n 2, 1) := by decide +kernel
theorem d_M_free_205 : decode y_M_free.2.1 205 = .ok (.aload_n 0, 1) := by decide +kernel
theorem d_M_free_206 : decode y_M_free.2.1 206 = .ok (.getfield 441, 3) := by decide +kernel
theorem d_M_free_209 : decode y_M_free.2.1 209 = .ok (.iload_n 3, 1) := by decide +kernel
theorem d_M_free_210 : decode y_M_free.2.1 210 = .ok (.iaload, 1) := by decide +kernel
theorem d_M_free_211 : decode y_M_free.2.1 211 = .ok (.iconst (-1), 1) := by decide +kernel
theorem d_M_free_212 : decode y_M_free.2.1 212 = .ok (.ixor, 1) := by decide +kernel
theorem d_M_free_213 : decode y_M_free.2.1 213 = .ok (.iand, 1) := by decide +kernel
theorem d_M_free_214 : decode y_M_free.2.1 214 = .ok (.invokevirtual 236, 3) := by decide +kernel
theorem d_M_free_217 : decode y_M_free.2.1 217 = .ok (.iconst 0, 1) := by decide +kernel
theorem d_M_free_218 : decode y_M_free.2.1 218 = .ok (.ireturn, 1) := by decide +kernel
theorem d_M_free_219 : decode y_M_free.2.1 219 = .ok (.iinc 3 1, 3) := by decide +kernel
theorem d_M_free_222 : decode y_M_free.2.1 222 = .ok (.goto (-47), 3) := by decide +kernel
theorem d_M_free_225 : decode y_M_free.2.1 225 = .ok (.iconst 1, 1) := by decide +kernel
theorem d_M_free_226 : decode y_M_free.2.1 226 = .ok (.ireturn, 1) := by decide +kernel
theorem d_M_keep_0 : decode y_M_keep.2.1 0 = .ok (.aload_n 0, 1) := by decide +kernel
theorem d_M_keep_1 : decode y_M_keep.2.1 1 = .ok (.iconst 0, 1) := by decide +kernel
theorem d_M_keep_2 : decode y_M_keep.2.1 2 = .ok (.putfield 3, 3) := by decide +kernel
theorem d_M_keep_5 : decode y_M_keep.2.1 5 = .ok (.iload_n 1, 1) := by decide +kernel
theorem d_M_keep_6 : decode y_M_keep.2.1 6 = .ok (.i2l, 1) := by decide +kernel
theorem d_M_keep_7 : decode y_M_keep.2.1 7 = .ok (.lconst 0, 1) := by decide +kernel
theorem d_M_keep_8 : decode y_M_keep.2.1 8 = .ok (.ldc2_w 21, 3) := by decide +kernel
theorem d_M_keep_11 : decode y_M_keep.2.1 11 = .ok (.invokestatic 17, 3) := by decide +kernel
theorem d_M_keep_14 : decode y_M_keep.2.1 14 = .ok (.ifCond .ne 5, 3) := by decide +kernel
theorem d_M_keep_17 : decode y_M_keep.2.1 17 = .ok (.iconst 0, 1) := by decide +kernel
theorem d_M_keep_18 : decode y_M_keep.2.1 18 = .ok (.ireturn, 1) := by decide +kernel
theorem d_M_keep_19 : decode y_M_keep.2.1 19 = .ok (.aload_n 0, 1) := by decide +kernel
theorem d_M_keep_20 : decode y_M_keep.2.1 20 = .ok (.getfield 444, 3) := by decide +kernel
theorem d_M_keep_23 : decode y_M_keep.2.1 23 = .ok (.iload_n 1, 1) := by decide +kernel
theorem d_M_keep_24 : decode y_M_keep.2.1 24 = .ok (.iconst 1, 1) := by decide +kernel
theorem d_M_keep_25 : decode y_M_keep.2.1 25 = .ok (.bastore, 1) := by decide +kernel
theorem d_M_keep_26 : decode y_M_keep.2.1 26 = .ok (.bipush 91, 2) := by decide +kernel
theorem d_M_keep_28 : decode y_M_keep.2.1 28 = .ok (.iload_n 1, 1) := by decide +kernel
theorem d_M_keep_29 : decode y_M_keep.2.1 29 = .ok (.imul, 1) := by decide +kernel
theorem d_M_keep_30 : decode y_M_keep.2.1 30 = .ok (.istore_n 2, 1) := by decide +kernel
theorem d_M_keep_31 : decode y_M_keep.2.1 31 = .ok (.iconst 0, 1) := by decide +kernel
theorem d_M_keep_32 : decode y_M_keep.2.1 32 = .ok (.istore_n 3, 1) := by decide +kernel
theorem d_M_keep_33 : decode y_M_keep.2.1 33 = .ok (.iload_n 3, 1) := by decide +kernel
theorem d_M_keep_34 : decode y_M_keep.2.1 34 = .ok (.iconst 3, 1) := by decide +kernel
theorem d_M_keep_35 : decode y_M_keep.2.1 35 = .ok (.if_icmp .ge 23, 3) := by decide +kernel
theorem d_M_keep_38 : decode y_M_keep.2.1 38 = .ok (.aload_n 0, 1) := by decide +kernel
theorem d_M_keep_39 : decode y_M_keep.2.1 39 = .ok (.getfield 448, 3) := by decide +kernel
theorem d_M_keep_42 : decode y_M_keep.2.1 42 = .ok (.iload_n 2, 1) := by decide +kernel
theorem d_M_keep_43 : decode y_M_keep.2.1 43 = .ok (.iload_n 3, 1) := by decide +kernel
theorem d_M_keep_44 : decode y_M_keep.2.1 44 = .ok (.iadd, 1) := by decide +kernel
theorem d_M_keep_45 : decode y_M_keep.2.1 45 = .ok (.aload_n 0, 1) := by decide +kernel
theorem d_M_keep_46 : decode y_M_keep.2.1 46 = .ok (.getfield 154, 3) := by decide +kernel
theorem d_M_keep_49 : decode y_M_keep.2.1 49 = .ok (.iload_n 3, 1) := by decide +kernel
theorem d_M_keep_50 : decode y_M_keep.2.1 50 = .ok (.iaload, 1) := by decide +kernel
theorem d_M_keep_51 : decode y_M_keep.2.1 51 = .ok (.iastore, 1) := by decide +kernel
theorem d_M_keep_52 : decode y_M_keep.2.1 52 = .ok (.iinc 3 1, 3) := by decide +kernel
theorem d_M_keep_55 : decode y_M_keep.2.1 55 = .ok (.goto (-22), 3) := by decide +kernel
theorem d_M_keep_58 : decode y_M_keep.2.1 58 = .ok (.iinc 2 3, 3) := by decide +kernel
theorem d_M_keep_61 : decode y_M_keep.2.1 61 = .ok (.iconst 0, 1) := by decide +kernel
theorem d_M_keep_62 : decode y_M_keep.2.1 62 = .ok (.istore_n 3, 1) := by decide +kernel
theorem d_M_keep_63 : decode y_M_keep.2.1 63 = .ok (.iload_n 3, 1) := by decide +kernel
theorem d_M_keep_64 : decode y_M_keep.2.1 64 = .ok (.bipush 12, 2) := by decide +kernel
theorem d_M_keep_66 : decode y_M_keep.2.1 66 = .ok (.if_icmp .ge 35, 3) := by decide +kernel
theorem d_M_keep_69 : decode y_M_keep.2.1 69 = .ok (.aload_n 0, 1) := by decide +kernel
theorem d_M_keep_70 : decode y_M_keep.2.1 70 = .ok (.getfield 448, 3) := by decide +kernel
theorem d_M_keep_73 : decode y_M_keep.2.1 73 = .ok (.iload_n 2, 1) := by decide +kernel
theorem d_M_keep_74 : decode y_M_keep.2.1 74 = .ok (.iload_n 3, 1) := by decide +kernel
theorem d_M_keep_75 : decode y_M_keep.2.1 75 = .ok (.iadd, 1) := by decide +kernel
theorem d_M_keep_76 : decode y_M_keep.2.1 76 = .ok (.iload_n 3, 1) := by decide +kernel
theorem d_M_keep_77 : decode y_M_keep.2.1 77 = .ok (.aload_n 0, 1) := by decide +kernel
theorem d_M_keep_78 : decode y_M_keep.2.1 78 = .ok (.getfield 14, 3) := by decide +kernel
theorem d_M_keep_81 : decode y_M_keep.2.1 81 = .ok (.if_icmp .ge 12, 3) := by decide +kernel
theorem d_M_keep_84 : decode y_M_keep.2.1 84 = .ok (.aload_n 0, 1) := by decide +kernel
theorem d_M_keep_85 : decode y_M_keep.2.1 85 = .ok (.getfield 176, 3) := by decide +kernel
theorem d_M_keep_88 : decode y_M_keep.2.1 88 = .ok (.iload_n 3, 1) := by decide +kernel
theorem d_M_keep_89 : decode y_M_keep.2.1 89 = .ok (.iaload, 1) := by decide +kernel
theorem d_M_keep_90 : decode y_M_keep.2.1 90 = .ok (.goto 4, 3) := by decide +kernel
theorem d_M_keep_93 : decode y_M_keep.2.1 93 = .ok (.iconst 0, 1) := by decide +kernel
theorem d_M_keep_94 : decode y_M_keep.2.1 94 = .ok (.iastore, 1) := by decide +kernel
theorem d_M_keep_95 : decode y_M_keep.2.1 95 = .ok (.iinc 3 1, 3) := by decide +kernel
theorem d_M_keep_98 : decode y_M_keep.2.1 98 = .ok (.goto (-35), 3) := by decide +kernel
theorem d_M_keep_101 : decode y_M_keep.2.1 101 = .ok (.iinc 2 12, 3) := by decide +kernel
theorem d_M_keep_104 : decode y_M_keep.2.1 104 = .ok (.iconst 0, 1) := by decide +kernel
theorem d_M_keep_105 : decode y_M_keep.2.1 105 = .ok (.istore_n 3, 1) := by decide +kernel
theorem d_M_keep_106 : decode y_M_keep.2.1 106 = .ok (.iload_n 3, 1) := by decide +kernel
theorem d_M_keep_107 : decode y_M_keep.2.1 107 = .ok (.bipush 6, 2) := by decide +kernel
theorem d_M_keep_109 : decode y_M_keep.2.1 109 = .ok (.if_icmp .ge 64, 3) := by decide +kernel
theorem d_M_keep_112 : decode y_M_keep.2.1 112 = .ok (.aload_n 0, 1) := by decide +kernel
theorem d_M_keep_113 : decode y_M_keep.2.1 113 = .ok (.getfield 448, 3) := by decide +kernel
theorem d_M_keep_116 : decode y_M_keep.2.1 116 = .ok (.iload_n 2, 1) := by decide +kernel
theorem d_M_keep_117 : decode y_M_keep.2.1 117 = .ok (.iload_n 3, 1) := by decide +kernel
theorem d_M_keep_118 : decode y_M_keep.2.1 118 = .ok (.iadd, 1) := by decide +kernel
theorem d_M_keep_119 : decode y_M_keep.2.1 119 = .ok (.iload_n 3, 1) := by decide +kernel
theorem d_M_keep_120 : decode y_M_keep.2.1 120 = .ok (.aload_n 0, 1) := by decide +kernel
theorem d_M_keep_121 : decode y_M_keep.2.1 121 = .ok (.getfield 23, 3) := by decide +kernel
theorem d_M_keep_124 : decode y_M_keep.2.1 124 = .ok (.if_icmp .ge 12, 3) := by decide +kernel
theorem d_M_keep_127 : decode y_M_keep.2.1 127 = .ok (.aload_n 0, 1) := by decide +kernel
theorem d_M_keep_128 : decode y_M_keep.2.1 128 = .ok (.getfield 26, 3) := by decide +kernel
theorem d_M_keep_131 : decode y_M_keep.2.1 131 = .ok (.iload_n 3, 1) := by decide +kernel
theorem d_M_keep_132 : decode y_M_keep.2.1 132 = .ok (.iaload, 1) := by decide +kernel
theorem d_M_keep_133 : decode y_M_keep.2.1 133 = .ok (.goto 4, 3) := by decide +kernel
theorem d_M_keep_136 : decode y_M_keep.2.1 136 = .ok (.iconst 0, 1) := by decide +kernel
theorem d_M_keep_137 : decode y_M_keep.2.1 137 = .ok (.iastore, 1) := by decide +kernel
theorem d_M_keep_138 : decode y_M_keep.2.1 138 = .ok (.aload_n 0, 1) := by decide +kernel
theorem d_M_keep_139 : decode y_M_keep.2.1 139 = .ok (.getfield 448, 3) := by decide +kernel
theorem d_M_keep_142 : decode y_M_keep.2.1 142 = .ok (.iload_n 2, 1) := by decide +kernel
theorem d_M_keep_143 : decode y_M_keep.2.1 143 = .ok (.bipush 6, 2) := by decide +kernel
theorem d_M_keep_145 : decode y_M_keep.2.1 145 = .ok (.iadd, 1) := by decide +kernel
theorem d_M_keep_146 : decode y_M_keep.2.1 146 = .ok (.iload_n 3, 1) := by decide +kernel
theorem d_M_keep_147 : decode y_M_keep.2.1 147 = .ok (.iadd, 1) := by decide +kernel
theorem d_M_keep_148 : decode y_M_keep.2.1 148 = .ok (.iload_n 3, 1) := by decide +kernel
theorem d_M_keep_149 : decode y_M_keep.2.1 149 = .ok (.aload_n 0, 1) := by decide +kernel
theorem d_M_keep_150 : decode y_M_keep.2.1 150 = .ok (.getfield 23, 3) := by decide +kernel
theorem d_M_keep_153 : decode y_M_keep.2.1 153 = .ok (.if_icmp .ge 12, 3) := by decide +kernel
theorem d_M_keep_156 : decode y_M_keep.2.1 156 = .ok (.aload_n 0, 1) := by decide +kernel
theorem d_M_keep_157 : decode y_M_keep.2.1 157 = .ok (.getfield 257, 3) := by decide +kernel
theorem d_M_keep_160 : decode y_M_keep.2.1 160 = .ok (.iload_n 3, 1) := by decide +kernel
theorem d_M_keep_161 : decode y_M_keep.2.1 161 = .ok (.iaload, 1) := by decide +kernel
theorem d_M_keep_162 : decode y_M_keep.2.1 162 = .ok (.goto 4, 3) := by decide +kernel
theorem d_M_keep_165 : decode y_M_keep.2.1 165 = .ok (.iconst (-1), 1) := by decide +kernel
theorem d_M_keep_166 : decode y_M_keep.2.1 166 = .ok (.iastore, 1) := by decide +kernel
theorem d_M_keep_167 : decode y_M_keep.2.1 167 = .ok (.iinc 3 1, 3) := by decide +kernel
theorem d_M_keep_170 : decode y_M_keep.2.1 170 = .ok (.goto (-64), 3) := by decide +kernel
theorem d_M_keep_173 : decode y_M_keep.2.1 173 = .ok (.iinc 2 12, 3) := by decide +kernel
theorem d_M_keep_176 : decode y_M_keep.2.1 176 = .ok (.aload_n 0, 1) := by decide +kernel
theorem d_M_keep_177 : decode y_M_keep.2.1 177 = .ok (.getfield 448, 3) := by decide +kernel
theorem d_M_keep_180 : decode y_M_keep.2.1 180 = .ok (.iload_n 2, 1) := by decide +kernel
theorem d_M_keep_181 : decode y_M_keep.2.1 181 = .ok (.aload_n 0, 1) := by decide +kernel
theorem d_M_keep_182 : decode y_M_keep.2.1 182 = .ok (.getfield 308, 3) := by decide +kernel
theorem d_M_keep_185 : decode y_M_keep.2.1 185 = .ok (.iastore, 1) := by decide +kernel
theorem d_M_keep_186 : decode y_M_keep.2.1 186 = .ok (.aload_n 0, 1) := by decide +kernel
theorem d_M_keep_187 : decode y_M_keep.2.1 187 = .ok (.getfield 448, 3) := by decide +kernel
theorem d_M_keep_190 : decode y_M_keep.2.1 190 = .ok (.iload_n 2, 1) := by decide +kernel
theorem d_M_keep_191 : decode y_M_keep.2.1 191 = .ok (.iconst 1, 1) := by decide +kernel
theorem d_M_keep_192 : decode y_M_keep.2.1 192 = .ok (.iadd, 1) := by decide +kernel
theorem d_M_keep_193 : decode y_M_keep.2.1 193 = .ok (.aload_n 0, 1) := by decide +kernel
theorem d_M_keep_194 : decode y_M_keep.2.1 194 = .ok (.getfield 284, 3) := by decide +kernel
theorem d_M_keep_197 : decode y_M_keep.2.1 197 = .ok (.iastore, 1) := by decide +kernel
theorem d_M_keep_198 : decode y_M_keep.2.1 198 = .ok (.iconst 0, 1) := by decide +kernel
theorem d_M_keep_199 : decode y_M_keep.2.1 199 = .ok (.istore_n 3, 1) := by decide +kernel
theorem d_M_keep_200 : decode y_M_keep.2.1 200 = .ok (.iload_n 3, 1) := by decide +kernel
theorem d_M_keep_201 : decode y_M_keep.2.1 201 = .ok (.aload_n 0, 1) := by decide +kernel
theorem d_M_keep_202 : decode y_M_keep.2.1 202 = .ok (.getfield 284, 3) := by decide +kernel
theorem d_M_keep_205 : decode y_M_keep.2.1 205 = .ok (.if_icmp .ge 25, 3) := by decide +kernel
theorem d_M_keep_208 : decode y_M_keep.2.1 208 = .ok (.aload_n 0, 1) := by decide +kernel
theorem d_M_keep_209 : decode y_M_keep.2.1 209 = .ok (.getfield 448, 3) := by decide +kernel
theorem d_M_keep_212 : decode y_M_keep.2.1 212 = .ok (.iload_n 2, 1) := by decide +kernel
theorem d_M_keep_213 : decode y_M_keep.2.1 213 = .ok (.iconst 2, 1) := by decide +kernel
theorem d_M_keep_214 : decode y_M_keep.2.1 214 = .ok (.iadd, 1) := by decide +kernel
theorem d_M_keep_215 : decode y_M_keep.2.1 215 = .ok (.iload_n 3, 1) := by decide +kernel
theorem d_M_keep_216 : decode y_M_keep.2.1 216 = .ok (.iadd, 1) := by decide +kernel
theorem d_M_keep_217 : decode y_M_keep.2.1 217 = .ok (.aload_n 0, 1) := by decide +kernel
theorem d_M_keep_218 : decode y_M_keep.2.1 218 = .ok (.getfield 287, 3) := by decide +kernel
theorem d_M_keep_221 : decode y_M_keep.2.1 221 = .ok (.iload_n 3, 1) := by decide +kernel
theorem d_M_keep_222 : decode y_M_keep.2.1 222 = .ok (.iaload, 1) := by decide +kernel
theorem d_M_keep_223 : decode y_M_keep.2.1 223 = .ok (.iastore, 1) := by decide +kernel
theorem d_M_keep_224 : decode y_M_keep.2.1 224 = .ok (.iinc 3 1, 3) := by decide +kernel
theorem d_M_keep_227 : decode y_M_keep.2.1 227 = .ok (.goto (-27), 3) := by decide +kernel
theorem d_M_keep_230 : decode y_M_keep.2.1 230 = .ok (.iconst 1, 1) := by decide +kernel
theorem d_M_keep_231 : decode y_M_keep.2.1 231 = .ok (.ireturn, 1) := by decide +kernel
theorem d_M_again_0 : decode y_M_again.2.1 0 = .ok (.aload_n 0, 1) := by decide +kernel
theorem d_M_again_1 : decode y_M_again.2.1 1 = .ok (.iconst 0, 1) := by decide +kernel
theorem d_M_again_2 : decode y_M_again.2.1 2 = .ok (.putfield 3, 3) := by decide +kernel
theorem d_M_again_5 : decode y_M_again.2.1 5 = .ok (.iload_n 1, 1) := by decide +kernel
theorem d_M_again_6 : decode y_M_again.2.1 6 = .ok (.i2l, 1) := by decide +kernel
theorem d_M_again_7 : decode y_M_again.2.1 7 = .ok (.lconst 0, 1) := by decide +kernel
theorem d_M_again_8 : decode y_M_again.2.1 8 = .ok (.ldc2_w 21, 3) := by decide +kernel
theorem d_M_again_11 : decode y_M_again.2.1 11 = .ok (.invokestatic 17, 3) := by decide +kernel
theorem d_M_again_14 : decode y_M_again.2.1 14 = .ok (.ifCond .eq 12, 3) := by decide +kernel
theorem d_M_again_17 : decode y_M_again.2.1 17 = .ok (.aload_n 0, 1) := by decide +kernel
theorem d_M_again_18 : decode y_M_again.2.1 18 = .ok (.getfield 444, 3) := by decide +kernel
theorem d_M_again_21 : decode y_M_again.2.1 21 = .ok (.iload_n 1, 1) := by decide +kernel
theorem d_M_again_22 : decode y_M_again.2.1 22 = .ok (.baload, 1) := by decide +kernel
theorem d_M_again_23 : decode y_M_again.2.1 23 = .ok (.ifCond .ne 5, 3) := by decide +kernel
theorem d_M_again_26 : decode y_M_again.2.1 26 = .ok (.iconst 0, 1) := by decide +kernel
theorem d_M_again_27 : decode y_M_again.2.1 27 = .ok (.ireturn, 1) := by decide +kernel
theorem d_M_again_28 : decode y_M_again.2.1 28 = .ok (.bipush 91, 2) := by decide +kernel
theorem d_M_again_30 : decode y_M_again.2.1 30 = .ok (.iload_n 1, 1) := by decide +kernel
theorem d_M_again_31 : decode y_M_again.2.1 31 = .ok (.imul, 1) := by decide +kernel
theorem d_M_again_32 : decode y_M_again.2.1 32 = .ok (.istore_n 2, 1) := by decide +kernel
theorem d_M_again_33 : decode y_M_again.2.1 33 = .ok (.iconst 0, 1) := by decide +kernel
theorem d_M_again_34 : decode y_M_again.2.1 34 = .ok (.istore_n 3, 1) := by decide +kernel
theorem d_M_again_35 : decode y_M_again.2.1 35 = .ok (.iload_n 3, 1) := by decide +kernel
theorem d_M_again_36 : decode y_M_again.2.1 36 = .ok (.iconst 3, 1) := by decide +kernel
theorem d_M_again_37 : decode y_M_again.2.1 37 = .ok (.if_icmp .ge 23, 3) := by decide +kernel
theorem d_M_again_40 : decode y_M_again.2.1 40 = .ok (.aload_n 0, 1) := by decide +kernel
theorem d_M_again_41 : decode y_M_again.2.1 41 = .ok (.getfield 154, 3) := by decide +kernel
theorem d_M_again_44 : decode y_M_again.2.1 44 = .ok (.iload_n 3, 1) := by decide +kernel
theorem d_M_again_45 : decode y_M_again.2.1 45 = .ok (.aload_n 0, 1) := by decide +kernel
theorem d_M_again_46 : decode y_M_again.2.1 46 = .ok (.getfield 448, 3) := by decide +kernel
theorem d_M_again_49 : decode y_M_again.2.1 49 = .ok (.iload_n 2, 1) := by decide +kernel
theorem d_M_again_50 : decode y_M_again.2.1 50 = .ok (.iload_n 3, 1) := by decide +kernel
theorem d_M_again_51 : decode y_M_again.2.1 51 = .ok (.iadd, 1) := by decide +kernel
theorem d_M_again_52 : decode y_M_again.2.1 52 = .ok (.iaload, 1) := by decide +kernel
theorem d_M_again_53 : decode y_M_again.2.1 53 = .ok (.iastore, 1) := by decide +kernel
theorem d_M_again_54 : decode y_M_again.2.1 54 = .ok (.iinc 3 1, 3) := by decide +kernel
theorem d_M_again_57 : decode y_M_again.2.1 57 = .ok (.goto (-22), 3) := by decide +kernel
theorem d_M_again_60 : decode y_M_again.2.1 60 = .ok (.iinc 2 3, 3) := by decide +kernel
theorem d_M_again_63 : decode y_M_again.2.1 63 = .ok (.iconst 0, 1) := by decide +kernel
theorem d_M_again_64 : decode y_M_again.2.1 64 = .ok (.istore_n 3, 1) := by decide +kernel
theorem d_M_again_65 : decode y_M_again.2.1 65 = .ok (.iload_n 3, 1) := by decide +kernel
theorem d_M_again_66 : decode y_M_again.2.1 66 = .ok (.bipush 12, 2) := by decide +kernel
theorem d_M_again_68 : decode y_M_again.2.1 68 = .ok (.if_icmp .ge 23, 3) := by decide +kernel
theorem d_M_again_71 : decode y_M_again.2.1 71 = .ok (.aload_n 0, 1) := by decide +kernel
theorem d_M_again_72 : decode y_M_again.2.1 72 = .ok (.getfield 176, 3) := by decide +kernel
theorem d_M_again_75 : decode y_M_again.2.1 75 = .ok (.iload_n 3, 1) := by decide +kernel
theorem d_M_again_76 : decode y_M_again.2.1 76 = .ok (.aload_n 0, 1) := by decide +kernel
theorem d_M_again_77 : decode y_M_again.2.1 77 = .ok (.getfield 448, 3) := by decide +kernel
theorem d_M_again_80 : decode y_M_again.2.1 80 = .ok (.iload_n 2, 1) := by decide +kernel
theorem d_M_again_81 : decode y_M_again.2.1 81 = .ok (.iload_n 3, 1) := by decide +kernel
theorem d_M_again_82 : decode y_M_again.2.1 82 = .ok (.iadd, 1) := by decide +kernel
theorem d_M_again_83 : decode y_M_again.2.1 83 = .ok (.iaload, 1) := by decide +kernel
theorem d_M_again_84 : decode y_M_again.2.1 84 = .ok (.iastore, 1) := by decide +kernel
theorem d_M_again_85 : decode y_M_again.2.1 85 = .ok (.iinc 3 1, 3) := by decide +kernel
theorem d_M_again_88 : decode y_M_again.2.1 88 = .ok (.goto (-23), 3) := by decide +kernel
theorem d_M_again_91 : decode y_M_again.2.1 91 = .ok (.iinc 2 12, 3) := by decide +kernel
theorem d_M_again_94 : decode y_M_again.2.1 94 = .ok (.iconst 0, 1) := by decide +kernel
theorem d_M_again_95 : decode y_M_again.2.1 95 = .ok (.istore_n 3, 1) := by decide +kernel
theorem d_M_again_96 : decode y_M_again.2.1 96 = .ok (.iload_n 3, 1) := by decide +kernel
theorem d_M_again_97 : decode y_M_again.2.1 97 = .ok (.aload_n 0, 1) := by decide +kernel
theorem d_M_again_98 : decode y_M_again.2.1 98 = .ok (.getfield 23, 3) := by decide +kernel
theorem d_M_again_101 : decode y_M_again.2.1 101 = .ok (.if_icmp .ge 63, 3) := by decide +kernel
theorem d_M_again_104 : decode y_M_again.2.1 104 = .ok (.aload_n 0, 1) := by decide +kernel
theorem d_M_again_105 : decode y_M_again.2.1 105 = .ok (.getfield 26, 3) := by decide +kernel
theorem d_M_again_108 : decode y_M_again.2.1 108 = .ok (.iload_n 3, 1) := by decide +kernel
theorem d_M_again_109 : decode y_M_again.2.1 109 = .ok (.aload_n 0, 1) := by decide +kernel
theorem d_M_again_110 : decode y_M_again.2.1 110 = .ok (.getfield 448, 3) := by decide +kernel
theorem d_M_again_113 : decode y_M_again.2.1 113 = .ok (.iload_n 2, 1) := by decide +kernel
theorem d_M_again_114 : decode y_M_again.2.1 114 = .ok (.iload_n 3, 1) := by decide +kernel
theorem d_M_again_115 : decode y_M_again.2.1 115 = .ok (.iadd, 1) := by decide +kernel
theorem d_M_again_116 : decode y_M_again.2.1 116 = .ok (.iaload, 1) := by decide +kernel
theorem d_M_again_117 : decode y_M_again.2.1 117 = .ok (.iastore, 1) := by decide +kernel
theorem d_M_again_118 : decode y_M_again.2.1 118 = .ok (.aload_n 0, 1) := by decide +kernel
theorem d_M_again_119 : decode y_M_again.2.1 119 = .ok (.getfield 257, 3) := by decide +kernel
theorem d_M_again_122 : decode y_M_again.2.1 122 = .ok (.iload_n 3, 1) := by decide +kernel
theorem d_M_again_123 : decode y_M_again.2.1 123 = .ok (.aload_n 0, 1) := by decide +kernel
theorem d_M_again_124 : decode y_M_again.2.1 124 = .ok (.getfield 448, 3) := by decide +kernel
theorem d_M_again_127 : decode y_M_again.2.1 127 = .ok (.iload_n 2, 1) := by decide +kernel
theorem d_M_again_128 : decode y_M_again.2.1 128 = .ok (.bipush 6, 2) := by decide +kernel
theorem d_M_again_130 : decode y_M_again.2.1 130 = .ok (.iadd, 1) := by decide +kernel
theorem d_M_again_131 : decode y_M_again.2.1 131 = .ok (.iload_n 3, 1) := by decide +kernel
theorem d_M_again_132 : decode y_M_again.2.1 132 = .ok (.iadd, 1) := by decide +kernel
theorem d_M_again_133 : decode y_M_again.2.1 133 = .ok (.iaload, 1) := by decide +kernel
theorem d_M_again_134 : decode y_M_again.2.1 134 = .ok (.ifCond .ge 12, 3) := by decide +kernel
theorem d_M_again_137 : decode y_M_again.2.1 137 = .ok (.aload_n 0, 1) := by decide +kernel
theorem d_M_again_138 : decode y_M_again.2.1 138 = .ok (.getfield 260, 3) := by decide +kernel
theorem d_M_again_141 : decode y_M_again.2.1 141 = .ok (.iload_n 3, 1) := by decide +kernel
theorem d_M_again_142 : decode y_M_again.2.1 142 = .ok (.iaload, 1) := by decide +kernel
theorem d_M_again_143 : decode y_M_again.2.1 143 = .ok (.goto 14, 3) := by decide +kernel
theorem d_M_again_146 : decode y_M_again.2.1 146 = .ok (.aload_n 0, 1) := by decide +kernel
theorem d_M_again_147 : decode y_M_again.2.1 147 = .ok (.getfield 448, 3) := by decide +kernel
theorem d_M_again_150 : decode y_M_again.2.1 150 = .ok (.iload_n 2, 1) := by decide +kernel
theorem d_M_again_151 : decode y_M_again.2.1 151 = .ok (.bipush 6, 2) := by decide +kernel
theorem d_M_again_153 : decode y_M_again.2.1 153 = .ok (.iadd, 1) := by decide +kernel
theorem d_M_again_154 : decode y_M_again.2.1 154 = .ok (.iload_n 3, 1) := by decide +kernel
theorem d_M_again_155 : decode y_M_again.2.1 155 = .ok (.iadd, 1) := by decide +kernel
theorem d_M_again_156 : decode y_M_again.2.1 156 = .ok (.iaload, 1) := by decide +kernel
theorem d_M_again_157 : decode y_M_again.2.1 157 = .ok (.iastore, 1) := by decide +kernel
theorem d_M_again_158 : decode y_M_again.2.1 158 = .ok (.iinc 3 1, 3) := by decide +kernel
theorem d_M_again_161 : decode y_M_again.2.1 161 = .ok (.goto (-65), 3) := by decide +kernel
theorem d_M_again_164 : decode y_M_again.2.1 164 = .ok (.iinc 2 12, 3) := by decide +kernel
theorem d_M_again_167 : decode y_M_again.2.1 167 = .ok (.aload_n 0, 1) := by decide +kernel
theorem d_M_again_168 : decode y_M_again.2.1 168 = .ok (.aload_n 0, 1) := by decide +kernel
theorem d_M_again_169 : decode y_M_again.2.1 169 = .ok (.getfield 448, 3) := by decide +kernel
theorem d_M_again_172 : decode y_M_again.2.1 172 = .ok (.iload_n 2, 1) := by decide +kernel
theorem d_M_again_173 : decode y_M_again.2.1 173 = .ok (.iaload, 1) := by decide +kernel
theorem d_M_again_174 : decode y_M_again.2.1 174 = .ok (.putfield 308, 3) := by decide +kernel
theorem d_M_again_177 : decode y_M_again.2.1 177 = .ok (.aload_n 0, 1) := by decide +kernel
theorem d_M_again_178 : decode y_M_again.2.1 178 = .ok (.aload_n 0, 1) := by decide +kernel
theorem d_M_again_179 : decode y_M_again.2.1 179 = .ok (.getfield 448, 3) := by decide +kernel
theorem d_M_again_182 : decode y_M_again.2.1 182 = .ok (.iload_n 2, 1) := by decide +kernel
theorem d_M_again_183 : decode y_M_again.2.1 183 = .ok (.iconst 1, 1) := by decide +kernel
theorem d_M_again_184 : decode y_M_again.2.1 184 = .ok (.iadd, 1) := by decide +kernel
theorem d_M_again_185 : decode y_M_again.2.1 185 = .ok (.iaload, 1) := by decide +kernel
theorem d_M_again_186 : decode y_M_again.2.1 186 = .ok (.putfield 284, 3) := by decide +kernel
theorem d_M_again_189 : decode y_M_again.2.1 189 = .ok (.iconst 0, 1) := by decide +kernel
theorem d_M_again_190 : decode y_M_again.2.1 190 = .ok (.istore_n 3, 1) := by decide +kernel
theorem d_M_again_191 : decode y_M_again.2.1 191 = .ok (.iload_n 3, 1) := by decide +kernel
theorem d_M_again_192 : decode y_M_again.2.1 192 = .ok (.aload_n 0, 1) := by decide +kernel
theorem d_M_again_193 : decode y_M_again.2.1 193 = .ok (.getfield 284, 3) := by decide +kernel
theorem d_M_again_196 : decode y_M_again.2.1 196 = .ok (.if_icmp .ge 25, 3) := by decide +kernel
theorem d_M_again_199 : decode y_M_again.2.1 199 = .ok (.aload_n 0, 1) := by decide +kernel
theorem d_M_again_200 : decode y_M_again.2.1 200 = .ok (.getfield 287, 3) := by decide +kernel
theorem d_M_again_203 : decode y_M_again.2.1 203 = .ok (.iload_n 3, 1) := by decide +kernel
theorem d_M_again_204 : decode y_M_again.2.1 204 = .ok (.aload_n 0, 1) := by decide +kernel
theorem d_M_again_205 : decode y_M_again.2.1 205 = .ok (.getfield 448, 3) := by decide +kernel
theorem d_M_again_208 : decode y_M_again.2.1 208 = .ok (.iload_n 2, 1) := by decide +kernel
theorem d_M_again_209 : decode y_M_again.2.1 209 = .ok (.iconst 2, 1) := by decide +kernel
theorem d_M_again_210 : decode y_M_again.2.1 210 = .ok (.iadd, 1) := by decide +kernel
theorem d_M_again_211 : decode y_M_again.2.1 211 = .ok (.iload_n 3, 1) := by decide +kernel
theorem d_M_again_212 : decode y_M_again.2.1 212 = .ok (.iadd, 1) := by decide +kernel
theorem d_M_again_213 : decode y_M_again.2.1 213 = .ok (.iaload, 1) := by decide +kernel
theorem d_M_again_214 : decode y_M_again.2.1 214 = .ok (.iastore, 1) := by decide +kernel
theorem d_M_again_215 : decode y_M_again.2.1 215 = .ok (.iinc 3 1, 3) := by decide +kernel
theorem d_M_again_218 : decode y_M_again.2.1 218 = .ok (.goto (-27), 3) := by decide +kernel
theorem d_M_again_221 : decode y_M_again.2.1 221 = .ok (.iconst 1, 1) := by decide +kernel
theorem d_M_again_222 : decode y_M_again.2.1 222 = .ok (.ireturn, 1) := by decide +kernel
theorem d_M_count_0 : decode y_M_count.2.1 0 = .ok (.aload_n 0, 1) := by decide +kernel
theorem d_M_count_1 : decode y_M_count.2.1 1 = .ok (.iconst 0, 1) := by decide +kernel
theorem d_M_count_2 : decode y_M_count.2.1 2 = .ok (.putfield 3, 3) := by decide +kernel
theorem d_M_count_5 : decode y_M_count.2.1 5 = .ok (.iload_n 1, 1) := by decide +kernel
theorem d_M_count_6 : decode y_M_count.2.1 6 = .ok (.tableswitch 93 0 6 #[42, 47, 52, 57, 78, 83, 88], 42) := by decide +kernel
theorem d_M_count_48 : decode y_M_count.2.1 48 = .ok (.aload_n 0, 1) := by decide +kernel
theorem d_M_count_49 : decode y_M_count.2.1 49 = .ok (.getfield 14, 3) := by decide +kernel
theorem d_M_count_52 : decode y_M_count.2.1 52 = .ok (.ireturn, 1) := by decide +kernel
theorem d_M_count_53 : decode y_M_count.2.1 53 = .ok (.aload_n 0, 1) := by decide +kernel
theorem d_M_count_54 : decode y_M_count.2.1 54 = .ok (.getfield 23, 3) := by decide +kernel
theorem d_M_count_57 : decode y_M_count.2.1 57 = .ok (.ireturn, 1) := by decide +kernel
theorem d_M_count_58 : decode y_M_count.2.1 58 = .ok (.aload_n 0, 1) := by decide +kernel
theorem d_M_count_59 : decode y_M_count.2.1 59 = .ok (.getfield 308, 3) := by decide +kernel
theorem d_M_count_62 : decode y_M_count.2.1 62 = .ok (.ireturn, 1) := by decide +kernel
theorem d_M_count_63 : decode y_M_count.2.1 63 = .ok (.aload_n 0, 1) := by decide +kernel
theorem d_M_count_64 : decode y_M_count.2.1 64 = .ok (.getfield 154, 3) := by decide +kernel
theorem d_M_count_67 : decode y_M_count.2.1 67 = .ok (.iconst 0, 1) := by decide +kernel
theorem d_M_count_68 : decode y_M_count.2.1 68 = .ok (.iaload, 1) := by decide +kernel
theorem d_M_count_69 : decode y_M_count.2.1 69 = .ok (.aload_n 0, 1) := by decide +kernel
theorem d_M_count_70 : decode y_M_count.2.1 70 = .ok (.getfield 154, 3) := by decide +kernel
theorem d_M_count_73 : decode y_M_count.2.1 73 = .ok (.iconst 1, 1) := by decide +kernel
theorem d_M_count_74 : decode y_M_count.2.1 74 = .ok (.iaload, 1) := by decide +kernel
theorem d_M_count_75 : decode y_M_count.2.1 75 = .ok (.ior, 1) := by decide +kernel
theorem d_M_count_76 : decode y_M_count.2.1 76 = .ok (.aload_n 0, 1) := by decide +kernel
theorem d_M_count_77 : decode y_M_count.2.1 77 = .ok (.getfield 154, 3) := by decide +kernel
theorem d_M_count_80 : decode y_M_count.2.1 80 = .ok (.iconst 2, 1) := by decide +kernel
theorem d_M_count_81 : decode y_M_count.2.1 81 = .ok (.iaload, 1) := by decide +kernel
theorem d_M_count_82 : decode y_M_count.2.1 82 = .ok (.ior, 1) := by decide +kernel
theorem d_M_count_83 : decode y_M_count.2.1 83 = .ok (.ireturn, 1) := by decide +kernel
theorem d_M_count_84 : decode y_M_count.2.1 84 = .ok (.aload_n 0, 1) := by decide +kernel
theorem d_M_count_85 : decode y_M_count.2.1 85 = .ok (.getfield 284, 3) := by decide +kernel
theorem d_M_count_88 : decode y_M_count.2.1 88 = .ok (.ireturn, 1) := by decide +kernel
theorem d_M_count_89 : decode y_M_count.2.1 89 = .ok (.aload_n 0, 1) := by decide +kernel
theorem d_M_count_90 : decode y_M_count.2.1 90 = .ok (.getfield 11, 3) := by decide +kernel
theorem d_M_count_93 : decode y_M_count.2.1 93 = .ok (.ireturn, 1) := by decide +kernel
theorem d_M_count_94 : decode y_M_count.2.1 94 = .ok (.aload_n 0, 1) := by decide +kernel
theorem d_M_count_95 : decode y_M_count.2.1 95 = .ok (.getfield 37, 3) := by decide +kernel
theorem d_M_count_98 : decode y_M_count.2.1 98 = .ok (.ireturn, 1) := by decide +kernel
theorem d_M_count_99 : decode y_M_count.2.1 99 = .ok (.iconst (-1), 1) := by decide +kernel
theorem d_M_count_100 : decode y_M_count.2.1 100 = .ok (.ireturn, 1) := by decide +kernel
theorem d_M_init_0 : decode y_M_init.2.1 0 = .ok (.aload_n 0, 1) := by decide +kernel
theorem d_M_init_1 : decode y_M_init.2.1 1 = .ok (.invokespecial 451, 3) := by decide +kernel
theorem d_M_init_4 : decode y_M_init.2.1 4 = .ok (.aload_n 0, 1) := by decide +kernel
theorem d_M_init_5 : decode y_M_init.2.1 5 = .ok (.bipush 20, 2) := by decide +kernel
theorem d_M_init_7 : decode y_M_init.2.1 7 = .ok (.newarray .int, 2) := by decide +kernel
theorem d_M_init_9 : decode y_M_init.2.1 9 = .ok (.putfield 7, 3) := by decide +kernel
theorem d_M_init_12 : decode y_M_init.2.1 12 = .ok (.aload_n 0, 1) := by decide +kernel
theorem d_M_init_13 : decode y_M_init.2.1 13 = .ok (.bipush 12, 2) := by decide +kernel
theorem d_M_init_15 : decode y_M_init.2.1 15 = .ok (.newarray .int, 2) := by decide +kernel
theorem d_M_init_17 : decode y_M_init.2.1 17 = .ok (.putfield 173, 3) := by decide +kernel
theorem d_M_init_20 : decode y_M_init.2.1 20 = .ok (.aload_n 0, 1) := by decide +kernel
theorem d_M_init_21 : decode y_M_init.2.1 21 = .ok (.bipush 12, 2) := by decide +kernel
theorem d_M_init_23 : decode y_M_init.2.1 23 = .ok (.newarray .int, 2) := by decide +kernel
theorem d_M_init_25 : decode y_M_init.2.1 25 = .ok (.putfield 176, 3) := by decide +kernel
theorem d_M_init_28 : decode y_M_init.2.1 28 = .ok (.aload_n 0, 1) := by decide +kernel
theorem d_M_init_29 : decode y_M_init.2.1 29 = .ok (.bipush 12, 2) := by decide +kernel
theorem d_M_init_31 : decode y_M_init.2.1 31 = .ok (.newarray .int, 2) := by decide +kernel
theorem d_M_init_33 : decode y_M_init.2.1 33 = .ok (.putfield 135, 3) := by decide +kernel
theorem d_M_init_36 : decode y_M_init.2.1 36 = .ok (.aload_n 0, 1) := by decide +kernel
theorem d_M_init_37 : decode y_M_init.2.1 37 = .ok (.iconst 3, 1) := by decide +kernel
theorem d_M_init_38 : decode y_M_init.2.1 38 = .ok (.newarray .int, 2) := by decide +kernel
theorem d_M_init_40 : decode y_M_init.2.1 40 = .ok (.dup, 1) := by decide +kernel
theorem d_M_init_41 : decode y_M_init.2.1 41 = .ok (.iconst 0, 1) := by decide +kernel
theorem d_M_init_42 : decode y_M_init.2.1 42 = .ok (.iconst 3, 1) := by decide +kernel
theorem d_M_init_43 : decode y_M_init.2.1 43 = .ok (.iastore, 1) := by decide +kernel
theorem d_M_init_44 : decode y_M_init.2.1 44 = .ok (.dup, 1) := by decide +kernel
theorem d_M_init_45 : decode y_M_init.2.1 45 = .ok (.iconst 1, 1) := by decide +kernel
theorem d_M_init_46 : decode y_M_init.2.1 46 = .ok (.iconst 3, 1) := by decide +kernel
theorem d_M_init_47 : decode y_M_init.2.1 47 = .ok (.iastore, 1) := by decide +kernel
theorem d_M_init_48 : decode y_M_init.2.1 48 = .ok (.dup, 1) := by decide +kernel
theorem d_M_init_49 : decode y_M_init.2.1 49 = .ok (.iconst 2, 1) := by decide +kernel
theorem d_M_init_50 : decode y_M_init.2.1 50 = .ok (.iconst 3, 1) := by decide +kernel
theorem d_M_init_51 : decode y_M_init.2.1 51 = .ok (.iastore, 1) := by decide +kernel
theorem d_M_init_52 : decode y_M_init.2.1 52 = .ok (.putfield 199, 3) := by decide +kernel
theorem d_M_init_55 : decode y_M_init.2.1 55 = .ok (.aload_n 0, 1) := by decide +kernel
theorem d_M_init_56 : decode y_M_init.2.1 56 = .ok (.iconst 3, 1) := by decide +kernel
theorem d_M_init_57 : decode y_M_init.2.1 57 = .ok (.newarray .int, 2) := by decide +kernel
theorem d_M_init_59 : decode y_M_init.2.1 59 = .ok (.putfield 154, 3) := by decide +kernel
theorem d_M_init_62 : decode y_M_init.2.1 62 = .ok (.aload_n 0, 1) := by decide +kernel
theorem d_M_init_63 : decode y_M_init.2.1 63 = .ok (.bipush 6, 2) := by decide +kernel
theorem d_M_init_65 : decode y_M_init.2.1 65 = .ok (.newarray .int, 2) := by decide +kernel
theorem d_M_init_67 : decode y_M_init.2.1 67 = .ok (.putfield 257, 3) := by decide +kernel
theorem d_M_init_70 : decode y_M_init.2.1 70 = .ok (.aload_n 0, 1) := by decide +kernel
theorem d_M_init_71 : decode y_M_init.2.1 71 = .ok (.bipush 6, 2) := by decide +kernel
theorem d_M_init_73 : decode y_M_init.2.1 73 = .ok (.newarray .int, 2) := by decide +kernel
theorem d_M_init_75 : decode y_M_init.2.1 75 = .ok (.putfield 260, 3) := by decide +kernel
theorem d_M_init_78 : decode y_M_init.2.1 78 = .ok (.aload_n 0, 1) := by decide +kernel
theorem d_M_init_79 : decode y_M_init.2.1 79 = .ok (.bipush 6, 2) := by decide +kernel
theorem d_M_init_81 : decode y_M_init.2.1 81 = .ok (.newarray .int, 2) := by decide +kernel
theorem d_M_init_83 : decode y_M_init.2.1 83 = .ok (.putfield 263, 3) := by decide +kernel
theorem d_M_init_86 : decode y_M_init.2.1 86 = .ok (.aload_n 0, 1) := by decide +kernel
theorem d_M_init_87 : decode y_M_init.2.1 87 = .ok (.bipush 6, 2) := by decide +kernel
theorem d_M_init_89 : decode y_M_init.2.1 89 = .ok (.newarray .int, 2) := by decide +kernel
theorem d_M_init_91 : decode y_M_init.2.1 91 = .ok (.putfield 26, 3) := by decide +kernel
theorem d_M_init_94 : decode y_M_init.2.1 94 = .ok (.aload_n 0, 1) := by decide +kernel
theorem d_M_init_95 : decode y_M_init.2.1 95 = .ok (.sipush 1728, 3) := by decide +kernel
theorem d_M_init_98 : decode y_M_init.2.1 98 = .ok (.newarray .int, 2) := by decide +kernel
theorem d_M_init_100 : decode y_M_init.2.1 100 = .ok (.putfield 63, 3) := by decide +kernel
theorem d_M_init_103 : decode y_M_init.2.1 103 = .ok (.aload_n 0, 1) := by decide +kernel
theorem d_M_init_104 : decode y_M_init.2.1 104 = .ok (.bipush 27, 2) := by decide +kernel
theorem d_M_init_106 : decode y_M_init.2.1 106 = .ok (.newarray .int, 2) := by decide +kernel
theorem d_M_init_108 : decode y_M_init.2.1 108 = .ok (.putfield 69, 3) := by decide +kernel
theorem d_M_init_111 : decode y_M_init.2.1 111 = .ok (.aload_n 0, 1) := by decide +kernel
theorem d_M_init_112 : decode y_M_init.2.1 112 = .ok (.bipush 64, 2) := by decide +kernel
theorem d_M_init_114 : decode y_M_init.2.1 114 = .ok (.newarray .int, 2) := by decide +kernel
theorem d_M_init_116 : decode y_M_init.2.1 116 = .ok (.putfield 124, 3) := by decide +kernel
theorem d_M_init_119 : decode y_M_init.2.1 119 = .ok (.aload_n 0, 1) := by decide +kernel
theorem d_M_init_120 : decode y_M_init.2.1 120 = .ok (.bipush 80, 2) := by decide +kernel
theorem d_M_init_122 : decode y_M_init.2.1 122 = .ok (.newarray .int, 2) := by decide +kernel
theorem d_M_init_124 : decode y_M_init.2.1 124 = .ok (.putfield 40, 3) := by decide +kernel
theorem d_M_init_127 : decode y_M_init.2.1 127 = .ok (.aload_n 0, 1) := by decide +kernel
theorem d_M_init_128 : decode y_M_init.2.1 128 = .ok (.iconst 3, 1) := by decide +kernel
theorem d_M_init_129 : decode y_M_init.2.1 129 = .ok (.newarray .int, 2) := by decide +kernel
theorem d_M_init_131 : decode y_M_init.2.1 131 = .ok (.putfield 242, 3) := by decide +kernel
theorem d_M_init_134 : decode y_M_init.2.1 134 = .ok (.aload_n 0, 1) := by decide +kernel
theorem d_M_init_135 : decode y_M_init.2.1 135 = .ok (.bipush 12, 2) := by decide +kernel
theorem d_M_init_137 : decode y_M_init.2.1 137 = .ok (.newarray .int, 2) := by decide +kernel
theorem d_M_init_139 : decode y_M_init.2.1 139 = .ok (.putfield 245, 3) := by decide +kernel
theorem d_M_init_142 : decode y_M_init.2.1 142 = .ok (.aload_n 0, 1) := by decide +kernel
theorem d_M_init_143 : decode y_M_init.2.1 143 = .ok (.bipush 6, 2) := by decide +kernel
theorem d_M_init_145 : decode y_M_init.2.1 145 = .ok (.newarray .int, 2) := by decide +kernel
theorem d_M_init_147 : decode y_M_init.2.1 147 = .ok (.putfield 281, 3) := by decide +kernel
theorem d_M_init_150 : decode y_M_init.2.1 150 = .ok (.aload_n 0, 1) := by decide +kernel
theorem d_M_init_151 : decode y_M_init.2.1 151 = .ok (.bipush 6, 2) := by decide +kernel
theorem d_M_init_153 : decode y_M_init.2.1 153 = .ok (.newarray .int, 2) := by decide +kernel
theorem d_M_init_155 : decode y_M_init.2.1 155 = .ok (.putfield 275, 3) := by decide +kernel
theorem d_M_init_158 : decode y_M_init.2.1 158 = .ok (.aload_n 0, 1) := by decide +kernel
theorem d_M_init_159 : decode y_M_init.2.1 159 = .ok (.bipush 60, 2) := by decide +kernel
theorem d_M_init_161 : decode y_M_init.2.1 161 = .ok (.newarray .int, 2) := by decide +kernel
theorem d_M_init_163 : decode y_M_init.2.1 163 = .ok (.putfield 287, 3) := by decide +kernel
theorem d_M_init_166 : decode y_M_init.2.1 166 = .ok (.aload_n 0, 1) := by decide +kernel
theorem d_M_init_167 : decode y_M_init.2.1 167 = .ok (.bipush 12, 2) := by decide +kernel
theorem d_M_init_169 : decode y_M_init.2.1 169 = .ok (.newarray .int, 2) := by decide +kernel
theorem d_M_init_171 : decode y_M_init.2.1 171 = .ok (.putfield 319, 3) := by decide +kernel
theorem d_M_init_174 : decode y_M_init.2.1 174 = .ok (.aload_n 0, 1) := by decide +kernel
theorem d_M_init_175 : decode y_M_init.2.1 175 = .ok (.bipush 12, 2) := by decide +kernel
theorem d_M_init_177 : decode y_M_init.2.1 177 = .ok (.newarray .int, 2) := by decide +kernel
theorem d_M_init_179 : decode y_M_init.2.1 179 = .ok (.putfield 316, 3) := by decide +kernel
theorem d_M_init_182 : decode y_M_init.2.1 182 = .ok (.aload_n 0, 1) := by decide +kernel
theorem d_M_init_183 : decode y_M_init.2.1 183 = .ok (.ldc_w 456, 3) := by decide +kernel
theorem d_M_init_186 : decode y_M_init.2.1 186 = .ok (.newarray .int, 2) := by decide +kernel
theorem d_M_init_188 : decode y_M_init.2.1 188 = .ok (.putfield 343, 3) := by decide +kernel
theorem d_M_init_191 : decode y_M_init.2.1 191 = .ok (.aload_n 0, 1) := by decide +kernel
theorem d_M_init_192 : decode y_M_init.2.1 192 = .ok (.sipush 4096, 3) := by decide +kernel
theorem d_M_init_195 : decode y_M_init.2.1 195 = .ok (.newarray .int, 2) := by decide +kernel
theorem d_M_init_197 : decode y_M_init.2.1 197 = .ok (.putfield 346, 3) := by decide +kernel
theorem d_M_init_200 : decode y_M_init.2.1 200 = .ok (.aload_n 0, 1) := by decide +kernel
theorem d_M_init_201 : decode y_M_init.2.1 201 = .ok (.sipush 4096, 3) := by decide +kernel
theorem d_M_init_204 : decode y_M_init.2.1 204 = .ok (.newarray .int, 2) := by decide +kernel
theorem d_M_init_206 : decode y_M_init.2.1 206 = .ok (.putfield 355, 3) := by decide +kernel
theorem d_M_init_209 : decode y_M_init.2.1 209 = .ok (.aload_n 0, 1) := by decide +kernel
theorem d_M_init_210 : decode y_M_init.2.1 210 = .ok (.sipush 4096, 3) := by decide +kernel
theorem d_M_init_213 : decode y_M_init.2.1 213 = .ok (.newarray .int, 2) := by decide +kernel
theorem d_M_init_215 : decode y_M_init.2.1 215 = .ok (.putfield 349, 3) := by decide +kernel
theorem d_M_init_218 : decode y_M_init.2.1 218 = .ok (.aload_n 0, 1) := by decide +kernel
theorem d_M_init_219 : decode y_M_init.2.1 219 = .ok (.sipush 5000, 3) := by decide +kernel
theorem d_M_init_222 : decode y_M_init.2.1 222 = .ok (.newarray .int, 2) := by decide +kernel
theorem d_M_init_224 : decode y_M_init.2.1 224 = .ok (.putfield 370, 3) := by decide +kernel
theorem d_M_init_227 : decode y_M_init.2.1 227 = .ok (.aload_n 0, 1) := by decide +kernel
theorem d_M_init_228 : decode y_M_init.2.1 228 = .ok (.sipush 4096, 3) := by decide +kernel
theorem d_M_init_231 : decode y_M_init.2.1 231 = .ok (.newarray .int, 2) := by decide +kernel
theorem d_M_init_233 : decode y_M_init.2.1 233 = .ok (.putfield 376, 3) := by decide +kernel
theorem d_M_init_236 : decode y_M_init.2.1 236 = .ok (.aload_n 0, 1) := by decide +kernel
theorem d_M_init_237 : decode y_M_init.2.1 237 = .ok (.sipush 5000, 3) := by decide +kernel
theorem d_M_init_240 : decode y_M_init.2.1 240 = .ok (.newarray .long, 2) := by decide +kernel
theorem d_M_init_242 : decode y_M_init.2.1 242 = .ok (.putfield 393, 3) := by decide +kernel
theorem d_M_init_245 : decode y_M_init.2.1 245 = .ok (.aload_n 0, 1) := by decide +kernel
theorem d_M_init_246 : decode y_M_init.2.1 246 = .ok (.sipush 5000, 3) := by decide +kernel
theorem d_M_init_249 : decode y_M_init.2.1 249 = .ok (.newarray .int, 2) := by decide +kernel
theorem d_M_init_251 : decode y_M_init.2.1 251 = .ok (.putfield 404, 3) := by decide +kernel
theorem d_M_init_254 : decode y_M_init.2.1 254 = .ok (.aload_n 0, 1) := by decide +kernel
theorem d_M_init_255 : decode y_M_init.2.1 255 = .ok (.sipush 5000, 3) := by decide +kernel
theorem d_M_init_258 : decode y_M_init.2.1 258 = .ok (.newarray .int, 2) := by decide +kernel
theorem d_M_init_260 : decode y_M_init.2.1 260 = .ok (.putfield 407, 3) := by decide +kernel
theorem d_M_init_263 : decode y_M_init.2.1 263 = .ok (.aload_n 0, 1) := by decide +kernel
theorem d_M_init_264 : decode y_M_init.2.1 264 = .ok (.sipush 5000, 3) := by decide +kernel
theorem d_M_init_267 : decode y_M_init.2.1 267 = .ok (.newarray .int, 2) := by decide +kernel
theorem d_M_init_269 : decode y_M_init.2.1 269 = .ok (.putfield 410, 3) := by decide +kernel
theorem d_M_init_272 : decode y_M_init.2.1 272 = .ok (.aload_n 0, 1) := by decide +kernel
theorem d_M_init_273 : decode y_M_init.2.1 273 = .ok (.ldc_w 457, 3) := by decide +kernel
theorem d_M_init_276 : decode y_M_init.2.1 276 = .ok (.newarray .int, 2) := by decide +kernel
theorem d_M_init_278 : decode y_M_init.2.1 278 = .ok (.putfield 425, 3) := by decide +kernel
theorem d_M_init_281 : decode y_M_init.2.1 281 = .ok (.aload_n 0, 1) := by decide +kernel
theorem d_M_init_282 : decode y_M_init.2.1 282 = .ok (.sipush 16384, 3) := by decide +kernel
theorem d_M_init_285 : decode y_M_init.2.1 285 = .ok (.newarray .int, 2) := by decide +kernel
theorem d_M_init_287 : decode y_M_init.2.1 287 = .ok (.putfield 390, 3) := by decide +kernel
theorem d_M_init_290 : decode y_M_init.2.1 290 = .ok (.aload_n 0, 1) := by decide +kernel
theorem d_M_init_291 : decode y_M_init.2.1 291 = .ok (.sipush 5000, 3) := by decide +kernel
theorem d_M_init_294 : decode y_M_init.2.1 294 = .ok (.newarray .int, 2) := by decide +kernel
theorem d_M_init_296 : decode y_M_init.2.1 296 = .ok (.putfield 441, 3) := by decide +kernel
theorem d_M_init_299 : decode y_M_init.2.1 299 = .ok (.aload_n 0, 1) := by decide +kernel
theorem d_M_init_300 : decode y_M_init.2.1 300 = .ok (.iconst 3, 1) := by decide +kernel
theorem d_M_init_301 : decode y_M_init.2.1 301 = .ok (.newarray .boolean, 2) := by decide +kernel
theorem d_M_init_303 : decode y_M_init.2.1 303 = .ok (.putfield 444, 3) := by decide +kernel
theorem d_M_init_306 : decode y_M_init.2.1 306 = .ok (.aload_n 0, 1) := by decide +kernel
theorem d_M_init_307 : decode y_M_init.2.1 307 = .ok (.sipush 273, 3) := by decide +kernel
theorem d_M_init_310 : decode y_M_init.2.1 310 = .ok (.newarray .int, 2) := by decide +kernel
theorem d_M_init_312 : decode y_M_init.2.1 312 = .ok (.putfield 448, 3) := by decide +kernel
theorem d_M_init_315 : decode y_M_init.2.1 315 = .ok (.return_, 1) := by decide +kernel
theorem d_M_row_0 : decode y_M_row.2.1 0 = .ok (.aload_n 0, 1) := by decide +kernel
theorem d_M_row_1 : decode y_M_row.2.1 1 = .ok (.iconst 0, 1) := by decide +kernel
theorem d_M_row_2 : decode y_M_row.2.1 2 = .ok (.putfield 3, 3) := by decide +kernel
theorem d_M_row_5 : decode y_M_row.2.1 5 = .ok (.iload_n 1, 1) := by decide +kernel
theorem d_M_row_6 : decode y_M_row.2.1 6 = .ok (.i2l, 1) := by decide +kernel
theorem d_M_row_7 : decode y_M_row.2.1 7 = .ok (.lconst 0, 1) := by decide +kernel
theorem d_M_row_8 : decode y_M_row.2.1 8 = .ok (.aload_n 0, 1) := by decide +kernel
theorem d_M_row_9 : decode y_M_row.2.1 9 = .ok (.getfield 11, 3) := by decide +kernel
theorem d_M_row_12 : decode y_M_row.2.1 12 = .ok (.iconst 1, 1) := by decide +kernel
theorem d_M_row_13 : decode y_M_row.2.1 13 = .ok (.isub, 1) := by decide +kernel
theorem d_M_row_14 : decode y_M_row.2.1 14 = .ok (.i2l, 1) := by decide +kernel
theorem d_M_row_15 : decode y_M_row.2.1 15 = .ok (.invokestatic 17, 3) := by decide +kernel
theorem d_M_row_18 : decode y_M_row.2.1 18 = .ok (.ifCond .ne 10, 3) := by decide +kernel
theorem d_M_row_21 : decode y_M_row.2.1 21 = .ok (.aload_n 0, 1) := by decide +kernel
theorem d_M_row_22 : decode y_M_row.2.1 22 = .ok (.iconst 1, 1) := by decide +kernel
theorem d_M_row_23 : decode y_M_row.2.1 23 = .ok (.putfield 3, 3) := by decide +kernel
theorem d_M_row_26 : decode y_M_row.2.1 26 = .ok (.iconst 0, 1) := by decide +kernel
theorem d_M_row_27 : decode y_M_row.2.1 27 = .ok (.ireturn, 1) := by decide +kernel
theorem d_M_row_28 : decode y_M_row.2.1 28 = .ok (.aload_n 0, 1) := by decide +kernel
theorem d_M_row_29 : decode y_M_row.2.1 29 = .ok (.getfield 7, 3) := by decide +kernel
theorem d_M_row_32 : decode y_M_row.2.1 32 = .ok (.iload_n 1, 1) := by decide +kernel
theorem d_M_row_33 : decode y_M_row.2.1 33 = .ok (.iaload, 1) := by decide +kernel
theorem d_M_row_34 : decode y_M_row.2.1 34 = .ok (.ireturn, 1) := by decide +kernel
