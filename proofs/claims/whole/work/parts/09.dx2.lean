-- DECODE ROWS of the methods, as the claim's program prints them
theorem d_X_init_0 : decode y_X_init.2.1 0 = .ok (.aload_n 0, 1) := by decide +kernel
theorem d_X_init_1 : decode y_X_init.2.1 1 = .ok (.invokespecial 3, 3) := by decide +kernel
theorem d_X_init_4 : decode y_X_init.2.1 4 = .ok (.aload_n 0, 1) := by decide +kernel
theorem d_X_init_5 : decode y_X_init.2.1 5 = .ok (.new 9, 3) := by decide +kernel
theorem d_X_init_8 : decode y_X_init.2.1 8 = .ok (.dup, 1) := by decide +kernel
theorem d_X_init_9 : decode y_X_init.2.1 9 = .ok (.invokespecial 11, 3) := by decide +kernel
theorem d_X_init_12 : decode y_X_init.2.1 12 = .ok (.putfield 12, 3) := by decide +kernel
theorem d_X_init_15 : decode y_X_init.2.1 15 = .ok (.aload_n 0, 1) := by decide +kernel
theorem d_X_init_16 : decode y_X_init.2.1 16 = .ok (.new 16, 3) := by decide +kernel
theorem d_X_init_19 : decode y_X_init.2.1 19 = .ok (.dup, 1) := by decide +kernel
theorem d_X_init_20 : decode y_X_init.2.1 20 = .ok (.invokespecial 18, 3) := by decide +kernel
theorem d_X_init_23 : decode y_X_init.2.1 23 = .ok (.putfield 19, 3) := by decide +kernel
theorem d_X_init_26 : decode y_X_init.2.1 26 = .ok (.aload_n 0, 1) := by decide +kernel
theorem d_X_init_27 : decode y_X_init.2.1 27 = .ok (.new 23, 3) := by decide +kernel
theorem d_X_init_30 : decode y_X_init.2.1 30 = .ok (.dup, 1) := by decide +kernel
theorem d_X_init_31 : decode y_X_init.2.1 31 = .ok (.invokespecial 25, 3) := by decide +kernel
theorem d_X_init_34 : decode y_X_init.2.1 34 = .ok (.putfield 26, 3) := by decide +kernel
theorem d_X_init_37 : decode y_X_init.2.1 37 = .ok (.aload_n 0, 1) := by decide +kernel
theorem d_X_init_38 : decode y_X_init.2.1 38 = .ok (.new 30, 3) := by decide +kernel
theorem d_X_init_41 : decode y_X_init.2.1 41 = .ok (.dup, 1) := by decide +kernel
theorem d_X_init_42 : decode y_X_init.2.1 42 = .ok (.invokespecial 32, 3) := by decide +kernel
theorem d_X_init_45 : decode y_X_init.2.1 45 = .ok (.putfield 33, 3) := by decide +kernel
theorem d_X_init_48 : decode y_X_init.2.1 48 = .ok (.aload_n 0, 1) := by decide +kernel
theorem d_X_init_49 : decode y_X_init.2.1 49 = .ok (.new 37, 3) := by decide +kernel
theorem d_X_init_52 : decode y_X_init.2.1 52 = .ok (.dup, 1) := by decide +kernel
theorem d_X_init_53 : decode y_X_init.2.1 53 = .ok (.invokespecial 39, 3) := by decide +kernel
theorem d_X_init_56 : decode y_X_init.2.1 56 = .ok (.putfield 40, 3) := by decide +kernel
theorem d_X_init_59 : decode y_X_init.2.1 59 = .ok (.aload_n 0, 1) := by decide +kernel
theorem d_X_init_60 : decode y_X_init.2.1 60 = .ok (.bipush 6, 2) := by decide +kernel
theorem d_X_init_62 : decode y_X_init.2.1 62 = .ok (.anewarray 44, 3) := by decide +kernel
theorem d_X_init_65 : decode y_X_init.2.1 65 = .ok (.putfield 46, 3) := by decide +kernel
theorem d_X_init_68 : decode y_X_init.2.1 68 = .ok (.aload_n 0, 1) := by decide +kernel
theorem d_X_init_69 : decode y_X_init.2.1 69 = .ok (.iconst 3, 1) := by decide +kernel
theorem d_X_init_70 : decode y_X_init.2.1 70 = .ok (.anewarray 50, 3) := by decide +kernel
theorem d_X_init_73 : decode y_X_init.2.1 73 = .ok (.putfield 52, 3) := by decide +kernel
theorem d_X_init_76 : decode y_X_init.2.1 76 = .ok (.aload_n 0, 1) := by decide +kernel
theorem d_X_init_77 : decode y_X_init.2.1 77 = .ok (.bipush 60, 2) := by decide +kernel
theorem d_X_init_79 : decode y_X_init.2.1 79 = .ok (.newarray .int, 2) := by decide +kernel
theorem d_X_init_81 : decode y_X_init.2.1 81 = .ok (.putfield 56, 3) := by decide +kernel
theorem d_X_init_84 : decode y_X_init.2.1 84 = .ok (.aload_n 0, 1) := by decide +kernel
theorem d_X_init_85 : decode y_X_init.2.1 85 = .ok (.bipush 12, 2) := by decide +kernel
theorem d_X_init_87 : decode y_X_init.2.1 87 = .ok (.newarray .int, 2) := by decide +kernel
theorem d_X_init_89 : decode y_X_init.2.1 89 = .ok (.putfield 60, 3) := by decide +kernel
theorem d_X_init_92 : decode y_X_init.2.1 92 = .ok (.aload_n 0, 1) := by decide +kernel
theorem d_X_init_93 : decode y_X_init.2.1 93 = .ok (.bipush 6, 2) := by decide +kernel
theorem d_X_init_95 : decode y_X_init.2.1 95 = .ok (.newarray .int, 2) := by decide +kernel
theorem d_X_init_97 : decode y_X_init.2.1 97 = .ok (.putfield 63, 3) := by decide +kernel
theorem d_X_init_100 : decode y_X_init.2.1 100 = .ok (.aload_n 0, 1) := by decide +kernel
theorem d_X_init_101 : decode y_X_init.2.1 101 = .ok (.bipush 6, 2) := by decide +kernel
theorem d_X_init_103 : decode y_X_init.2.1 103 = .ok (.newarray .int, 2) := by decide +kernel
theorem d_X_init_105 : decode y_X_init.2.1 105 = .ok (.putfield 66, 3) := by decide +kernel
theorem d_X_init_108 : decode y_X_init.2.1 108 = .ok (.aload_n 0, 1) := by decide +kernel
theorem d_X_init_109 : decode y_X_init.2.1 109 = .ok (.bipush 12, 2) := by decide +kernel
theorem d_X_init_111 : decode y_X_init.2.1 111 = .ok (.newarray .int, 2) := by decide +kernel
theorem d_X_init_113 : decode y_X_init.2.1 113 = .ok (.putfield 69, 3) := by decide +kernel
theorem d_X_init_116 : decode y_X_init.2.1 116 = .ok (.aload_n 0, 1) := by decide +kernel
theorem d_X_init_117 : decode y_X_init.2.1 117 = .ok (.bipush 12, 2) := by decide +kernel
theorem d_X_init_119 : decode y_X_init.2.1 119 = .ok (.newarray .int, 2) := by decide +kernel
theorem d_X_init_121 : decode y_X_init.2.1 121 = .ok (.putfield 72, 3) := by decide +kernel
theorem d_X_init_124 : decode y_X_init.2.1 124 = .ok (.aload_n 0, 1) := by decide +kernel
theorem d_X_init_125 : decode y_X_init.2.1 125 = .ok (.bipush 13, 2) := by decide +kernel
theorem d_X_init_127 : decode y_X_init.2.1 127 = .ok (.newarray .int, 2) := by decide +kernel
theorem d_X_init_129 : decode y_X_init.2.1 129 = .ok (.putfield 75, 3) := by decide +kernel
theorem d_X_init_132 : decode y_X_init.2.1 132 = .ok (.iconst 0, 1) := by decide +kernel
theorem d_X_init_133 : decode y_X_init.2.1 133 = .ok (.istore_n 1, 1) := by decide +kernel
theorem d_X_init_134 : decode y_X_init.2.1 134 = .ok (.iload_n 1, 1) := by decide +kernel
theorem d_X_init_135 : decode y_X_init.2.1 135 = .ok (.bipush 6, 2) := by decide +kernel
theorem d_X_init_137 : decode y_X_init.2.1 137 = .ok (.if_icmp .ge 22, 3) := by decide +kernel
theorem d_X_init_140 : decode y_X_init.2.1 140 = .ok (.aload_n 0, 1) := by decide +kernel
theorem d_X_init_141 : decode y_X_init.2.1 141 = .ok (.getfield 46, 3) := by decide +kernel
theorem d_X_init_144 : decode y_X_init.2.1 144 = .ok (.iload_n 1, 1) := by decide +kernel
theorem d_X_init_145 : decode y_X_init.2.1 145 = .ok (.new 44, 3) := by decide +kernel
theorem d_X_init_148 : decode y_X_init.2.1 148 = .ok (.dup, 1) := by decide +kernel
theorem d_X_init_149 : decode y_X_init.2.1 149 = .ok (.invokespecial 78, 3) := by decide +kernel
theorem d_X_init_152 : decode y_X_init.2.1 152 = .ok (.aastore, 1) := by decide +kernel
theorem d_X_init_153 : decode y_X_init.2.1 153 = .ok (.iinc 1 1, 3) := by decide +kernel
theorem d_X_init_156 : decode y_X_init.2.1 156 = .ok (.goto (-22), 3) := by decide +kernel
theorem d_X_init_159 : decode y_X_init.2.1 159 = .ok (.iconst 0, 1) := by decide +kernel
theorem d_X_init_160 : decode y_X_init.2.1 160 = .ok (.istore_n 1, 1) := by decide +kernel
theorem d_X_init_161 : decode y_X_init.2.1 161 = .ok (.iload_n 1, 1) := by decide +kernel
theorem d_X_init_162 : decode y_X_init.2.1 162 = .ok (.iconst 3, 1) := by decide +kernel
theorem d_X_init_163 : decode y_X_init.2.1 163 = .ok (.if_icmp .ge 22, 3) := by decide +kernel
theorem d_X_init_166 : decode y_X_init.2.1 166 = .ok (.aload_n 0, 1) := by decide +kernel
theorem d_X_init_167 : decode y_X_init.2.1 167 = .ok (.getfield 52, 3) := by decide +kernel
theorem d_X_init_170 : decode y_X_init.2.1 170 = .ok (.iload_n 1, 1) := by decide +kernel
theorem d_X_init_171 : decode y_X_init.2.1 171 = .ok (.new 50, 3) := by decide +kernel
theorem d_X_init_174 : decode y_X_init.2.1 174 = .ok (.dup, 1) := by decide +kernel
theorem d_X_init_175 : decode y_X_init.2.1 175 = .ok (.invokespecial 79, 3) := by decide +kernel
theorem d_X_init_178 : decode y_X_init.2.1 178 = .ok (.aastore, 1) := by decide +kernel
theorem d_X_init_179 : decode y_X_init.2.1 179 = .ok (.iinc 1 1, 3) := by decide +kernel
theorem d_X_init_182 : decode y_X_init.2.1 182 = .ok (.goto (-21), 3) := by decide +kernel
theorem d_X_init_185 : decode y_X_init.2.1 185 = .ok (.return_, 1) := by decide +kernel
theorem d_X_sign_0 : decode y_X_sign.2.1 0 = .ok (.aload_n 0, 1) := by decide +kernel
theorem d_X_sign_1 : decode y_X_sign.2.1 1 = .ok (.getfield 12, 3) := by decide +kernel
theorem d_X_sign_4 : decode y_X_sign.2.1 4 = .ok (.iload_n 1, 1) := by decide +kernel
theorem d_X_sign_5 : decode y_X_sign.2.1 5 = .ok (.invokevirtual 80, 3) := by decide +kernel
theorem d_X_sign_8 : decode y_X_sign.2.1 8 = .ok (.ireturn, 1) := by decide +kernel
theorem d_X_end_0 : decode y_X_end.2.1 0 = .ok (.aload_n 0, 1) := by decide +kernel
theorem d_X_end_1 : decode y_X_end.2.1 1 = .ok (.getfield 12, 3) := by decide +kernel
theorem d_X_end_4 : decode y_X_end.2.1 4 = .ok (.iload_n 1, 1) := by decide +kernel
theorem d_X_end_5 : decode y_X_end.2.1 5 = .ok (.invokevirtual 84, 3) := by decide +kernel
theorem d_X_end_8 : decode y_X_end.2.1 8 = .ok (.ireturn, 1) := by decide +kernel
theorem d_X_book_0 : decode y_X_book.2.1 0 = .ok (.iload_n 1, 1) := by decide +kernel
theorem d_X_book_1 : decode y_X_book.2.1 1 = .ok (.bipush 12, 2) := by decide +kernel
theorem d_X_book_3 : decode y_X_book.2.1 3 = .ok (.if_icmp .ne 19, 3) := by decide +kernel
theorem d_X_book_6 : decode y_X_book.2.1 6 = .ok (.aload_n 0, 1) := by decide +kernel
theorem d_X_book_7 : decode y_X_book.2.1 7 = .ok (.getfield 19, 3) := by decide +kernel
theorem d_X_book_10 : decode y_X_book.2.1 10 = .ok (.getfield 88, 3) := by decide +kernel
theorem d_X_book_13 : decode y_X_book.2.1 13 = .ok (.bipush 12, 2) := by decide +kernel
theorem d_X_book_15 : decode y_X_book.2.1 15 = .ok (.if_icmp .ge 7, 3) := by decide +kernel
theorem d_X_book_18 : decode y_X_book.2.1 18 = .ok (.iconst 1, 1) := by decide +kernel
theorem d_X_book_19 : decode y_X_book.2.1 19 = .ok (.goto 4, 3) := by decide +kernel
theorem d_X_book_22 : decode y_X_book.2.1 22 = .ok (.iconst 0, 1) := by decide +kernel
theorem d_X_book_23 : decode y_X_book.2.1 23 = .ok (.istore_n 2, 1) := by decide +kernel
theorem d_X_book_24 : decode y_X_book.2.1 24 = .ok (.iload_n 2, 1) := by decide +kernel
theorem d_X_book_25 : decode y_X_book.2.1 25 = .ok (.ifCond .ne 24, 3) := by decide +kernel
theorem d_X_book_28 : decode y_X_book.2.1 28 = .ok (.aload_n 0, 1) := by decide +kernel
theorem d_X_book_29 : decode y_X_book.2.1 29 = .ok (.getfield 19, 3) := by decide +kernel
theorem d_X_book_32 : decode y_X_book.2.1 32 = .ok (.iload_n 1, 1) := by decide +kernel
theorem d_X_book_33 : decode y_X_book.2.1 33 = .ok (.invokevirtual 92, 3) := by decide +kernel
theorem d_X_book_36 : decode y_X_book.2.1 36 = .ok (.ifCond .ne 13, 3) := by decide +kernel
theorem d_X_book_39 : decode y_X_book.2.1 39 = .ok (.aload_n 0, 1) := by decide +kernel
theorem d_X_book_40 : decode y_X_book.2.1 40 = .ok (.getfield 12, 3) := by decide +kernel
theorem d_X_book_43 : decode y_X_book.2.1 43 = .ok (.invokevirtual 95, 3) := by decide +kernel
theorem d_X_book_46 : decode y_X_book.2.1 46 = .ok (.bipush (-100), 2) := by decide +kernel
theorem d_X_book_48 : decode y_X_book.2.1 48 = .ok (.ireturn, 1) := by decide +kernel
theorem d_X_book_49 : decode y_X_book.2.1 49 = .ok (.aload_n 0, 1) := by decide +kernel
theorem d_X_book_50 : decode y_X_book.2.1 50 = .ok (.getfield 12, 3) := by decide +kernel
theorem d_X_book_53 : decode y_X_book.2.1 53 = .ok (.bipush 60, 2) := by decide +kernel
theorem d_X_book_55 : decode y_X_book.2.1 55 = .ok (.iconst 1, 1) := by decide +kernel
theorem d_X_book_56 : decode y_X_book.2.1 56 = .ok (.invokevirtual 98, 3) := by decide +kernel
theorem d_X_book_59 : decode y_X_book.2.1 59 = .ok (.istore_n 3, 1) := by decide +kernel
theorem d_X_book_60 : decode y_X_book.2.1 60 = .ok (.iload_n 3, 1) := by decide +kernel
theorem d_X_book_61 : decode y_X_book.2.1 61 = .ok (.iconst (-1), 1) := by decide +kernel
theorem d_X_book_62 : decode y_X_book.2.1 62 = .ok (.if_icmp .eq 7, 3) := by decide +kernel
theorem d_X_book_65 : decode y_X_book.2.1 65 = .ok (.iconst (-1), 1) := by decide +kernel
theorem d_X_book_66 : decode y_X_book.2.1 66 = .ok (.iload_n 3, 1) := by decide +kernel
theorem d_X_book_67 : decode y_X_book.2.1 67 = .ok (.isub, 1) := by decide +kernel
theorem d_X_book_68 : decode y_X_book.2.1 68 = .ok (.ireturn, 1) := by decide +kernel
theorem d_X_book_69 : decode y_X_book.2.1 69 = .ok (.iload_n 2, 1) := by decide +kernel
theorem d_X_book_70 : decode y_X_book.2.1 70 = .ok (.ifCond .eq 13, 3) := by decide +kernel
theorem d_X_book_73 : decode y_X_book.2.1 73 = .ok (.aload_n 0, 1) := by decide +kernel
theorem d_X_book_74 : decode y_X_book.2.1 74 = .ok (.getfield 19, 3) := by decide +kernel
theorem d_X_book_77 : decode y_X_book.2.1 77 = .ok (.getfield 88, 3) := by decide +kernel
theorem d_X_book_80 : decode y_X_book.2.1 80 = .ok (.goto 4, 3) := by decide +kernel
theorem d_X_book_83 : decode y_X_book.2.1 83 = .ok (.iload_n 1, 1) := by decide +kernel
theorem d_X_book_84 : decode y_X_book.2.1 84 = .ok (.istore 4, 2) := by decide +kernel
theorem d_X_book_86 : decode y_X_book.2.1 86 = .ok (.iload_n 2, 1) := by decide +kernel
theorem d_X_book_87 : decode y_X_book.2.1 87 = .ok (.ifCond .eq 16, 3) := by decide +kernel
theorem d_X_book_90 : decode y_X_book.2.1 90 = .ok (.aload_n 0, 1) := by decide +kernel
theorem d_X_book_91 : decode y_X_book.2.1 91 = .ok (.getfield 19, 3) := by decide +kernel
theorem d_X_book_94 : decode y_X_book.2.1 94 = .ok (.dup, 1) := by decide +kernel
theorem d_X_book_95 : decode y_X_book.2.1 95 = .ok (.getfield 88, 3) := by decide +kernel
theorem d_X_book_98 : decode y_X_book.2.1 98 = .ok (.iconst 1, 1) := by decide +kernel
theorem d_X_book_99 : decode y_X_book.2.1 99 = .ok (.iadd, 1) := by decide +kernel
theorem d_X_book_100 : decode y_X_book.2.1 100 = .ok (.putfield 88, 3) := by decide +kernel
theorem d_X_book_103 : decode y_X_book.2.1 103 = .ok (.aload_n 0, 1) := by decide +kernel
theorem d_X_book_104 : decode y_X_book.2.1 104 = .ok (.getfield 19, 3) := by decide +kernel
theorem d_X_book_107 : decode y_X_book.2.1 107 = .ok (.getfield 102, 3) := by decide +kernel
theorem d_X_book_110 : decode y_X_book.2.1 110 = .ok (.iload 4, 2) := by decide +kernel
theorem d_X_book_112 : decode y_X_book.2.1 112 = .ok (.aaload, 1) := by decide +kernel
theorem d_X_book_113 : decode y_X_book.2.1 113 = .ok (.aload_n 0, 1) := by decide +kernel
theorem d_X_book_114 : decode y_X_book.2.1 114 = .ok (.getfield 12, 3) := by decide +kernel
theorem d_X_book_117 : decode y_X_book.2.1 117 = .ok (.invokevirtual 106, 3) := by decide +kernel
theorem d_X_book_120 : decode y_X_book.2.1 120 = .ok (.aload_n 0, 1) := by decide +kernel
theorem d_X_book_121 : decode y_X_book.2.1 121 = .ok (.getfield 19, 3) := by decide +kernel
theorem d_X_book_124 : decode y_X_book.2.1 124 = .ok (.invokevirtual 112, 3) := by decide +kernel
theorem d_X_book_127 : decode y_X_book.2.1 127 = .ok (.aload_n 0, 1) := by decide +kernel
theorem d_X_book_128 : decode y_X_book.2.1 128 = .ok (.getfield 115, 3) := by decide +kernel
theorem d_X_book_131 : decode y_X_book.2.1 131 = .ok (.iload 4, 2) := by decide +kernel
theorem d_X_book_133 : decode y_X_book.2.1 133 = .ok (.invokestatic 119, 3) := by decide +kernel
theorem d_X_book_136 : decode y_X_book.2.1 136 = .ok (.istore 5, 2) := by decide +kernel
theorem d_X_book_138 : decode y_X_book.2.1 138 = .ok (.iload 5, 2) := by decide +kernel
theorem d_X_book_140 : decode y_X_book.2.1 140 = .ok (.iconst (-1), 1) := by decide +kernel
theorem d_X_book_141 : decode y_X_book.2.1 141 = .ok (.if_icmp .eq 20, 3) := by decide +kernel
theorem d_X_book_144 : decode y_X_book.2.1 144 = .ok (.aload_n 0, 1) := by decide +kernel
theorem d_X_book_145 : decode y_X_book.2.1 145 = .ok (.aload_n 0, 1) := by decide +kernel
theorem d_X_book_146 : decode y_X_book.2.1 146 = .ok (.getfield 19, 3) := by decide +kernel
theorem d_X_book_149 : decode y_X_book.2.1 149 = .ok (.aload_n 0, 1) := by decide +kernel
theorem d_X_book_150 : decode y_X_book.2.1 150 = .ok (.getfield 115, 3) := by decide +kernel
theorem d_X_book_153 : decode y_X_book.2.1 153 = .ok (.iload 5, 2) := by decide +kernel
theorem d_X_book_155 : decode y_X_book.2.1 155 = .ok (.invokevirtual 123, 3) := by decide +kernel
theorem d_X_book_158 : decode y_X_book.2.1 158 = .ok (.putfield 115, 3) := by decide +kernel
theorem d_X_book_161 : decode y_X_book.2.1 161 = .ok (.iload 4, 2) := by decide +kernel
theorem d_X_book_163 : decode y_X_book.2.1 163 = .ok (.ireturn, 1) := by decide +kernel
theorem d_X_rule_0 : decode y_X_rule.2.1 0 = .ok (.aload_n 0, 1) := by decide +kernel
theorem d_X_rule_1 : decode y_X_rule.2.1 1 = .ok (.getfield 12, 3) := by decide +kernel
theorem d_X_rule_4 : decode y_X_rule.2.1 4 = .ok (.getfield 127, 3) := by decide +kernel
theorem d_X_rule_7 : decode y_X_rule.2.1 7 = .ok (.ifCond .ne 12, 3) := by decide +kernel
theorem d_X_rule_10 : decode y_X_rule.2.1 10 = .ok (.aload_n 0, 1) := by decide +kernel
theorem d_X_rule_11 : decode y_X_rule.2.1 11 = .ok (.getfield 40, 3) := by decide +kernel
theorem d_X_rule_14 : decode y_X_rule.2.1 14 = .ok (.invokevirtual 130, 3) := by decide +kernel
theorem d_X_rule_17 : decode y_X_rule.2.1 17 = .ok (.iconst 0, 1) := by decide +kernel
theorem d_X_rule_18 : decode y_X_rule.2.1 18 = .ok (.ireturn, 1) := by decide +kernel
theorem d_X_rule_19 : decode y_X_rule.2.1 19 = .ok (.aload_n 0, 1) := by decide +kernel
theorem d_X_rule_20 : decode y_X_rule.2.1 20 = .ok (.getfield 12, 3) := by decide +kernel
theorem d_X_rule_23 : decode y_X_rule.2.1 23 = .ok (.bipush 40, 2) := by decide +kernel
theorem d_X_rule_25 : decode y_X_rule.2.1 25 = .ok (.iconst 0, 1) := by decide +kernel
theorem d_X_rule_26 : decode y_X_rule.2.1 26 = .ok (.invokevirtual 98, 3) := by decide +kernel
theorem d_X_rule_29 : decode y_X_rule.2.1 29 = .ok (.istore_n 1, 1) := by decide +kernel
theorem d_X_rule_30 : decode y_X_rule.2.1 30 = .ok (.iload_n 1, 1) := by decide +kernel
theorem d_X_rule_31 : decode y_X_rule.2.1 31 = .ok (.iconst (-1), 1) := by decide +kernel
theorem d_X_rule_32 : decode y_X_rule.2.1 32 = .ok (.if_icmp .eq 7, 3) := by decide +kernel
theorem d_X_rule_35 : decode y_X_rule.2.1 35 = .ok (.iconst (-1), 1) := by decide +kernel
theorem d_X_rule_36 : decode y_X_rule.2.1 36 = .ok (.iload_n 1, 1) := by decide +kernel
theorem d_X_rule_37 : decode y_X_rule.2.1 37 = .ok (.isub, 1) := by decide +kernel
theorem d_X_rule_38 : decode y_X_rule.2.1 38 = .ok (.ireturn, 1) := by decide +kernel
theorem d_X_rule_39 : decode y_X_rule.2.1 39 = .ok (.aload_n 0, 1) := by decide +kernel
theorem d_X_rule_40 : decode y_X_rule.2.1 40 = .ok (.getfield 40, 3) := by decide +kernel
theorem d_X_rule_43 : decode y_X_rule.2.1 43 = .ok (.aload_n 0, 1) := by decide +kernel
theorem d_X_rule_44 : decode y_X_rule.2.1 44 = .ok (.getfield 12, 3) := by decide +kernel
theorem d_X_rule_47 : decode y_X_rule.2.1 47 = .ok (.getfield 131, 3) := by decide +kernel
theorem d_X_rule_50 : decode y_X_rule.2.1 50 = .ok (.invokevirtual 134, 3) := by decide +kernel
theorem d_X_rule_53 : decode y_X_rule.2.1 53 = .ok (.iconst 0, 1) := by decide +kernel
theorem d_X_rule_54 : decode y_X_rule.2.1 54 = .ok (.ireturn, 1) := by decide +kernel
theorem d_X_set_0 : decode y_X_set.2.1 0 = .ok (.iload_n 1, 1) := by decide +kernel
theorem d_X_set_1 : decode y_X_set.2.1 1 = .ok (.ifCond .ne 54, 3) := by decide +kernel
theorem d_X_set_4 : decode y_X_set.2.1 4 = .ok (.aload_n 0, 1) := by decide +kernel
theorem d_X_set_5 : decode y_X_set.2.1 5 = .ok (.getfield 19, 3) := by decide +kernel
theorem d_X_set_8 : decode y_X_set.2.1 8 = .ok (.iload_n 2, 1) := by decide +kernel
theorem d_X_set_9 : decode y_X_set.2.1 9 = .ok (.invokevirtual 92, 3) := by decide +kernel
theorem d_X_set_12 : decode y_X_set.2.1 12 = .ok (.ifCond .eq 43, 3) := by decide +kernel
theorem d_X_set_15 : decode y_X_set.2.1 15 = .ok (.iload_n 3, 1) := by decide +kernel
theorem d_X_set_16 : decode y_X_set.2.1 16 = .ok (.ifCond .lt 39, 3) := by decide +kernel
theorem d_X_set_19 : decode y_X_set.2.1 19 = .ok (.iload_n 3, 1) := by decide +kernel
theorem d_X_set_20 : decode y_X_set.2.1 20 = .ok (.bipush 99, 2) := by decide +kernel
theorem d_X_set_22 : decode y_X_set.2.1 22 = .ok (.if_icmp .gt 33, 3) := by decide +kernel
theorem d_X_set_25 : decode y_X_set.2.1 25 = .ok (.aload_n 0, 1) := by decide +kernel
theorem d_X_set_26 : decode y_X_set.2.1 26 = .ok (.getfield 19, 3) := by decide +kernel
theorem d_X_set_29 : decode y_X_set.2.1 29 = .ok (.getfield 102, 3) := by decide +kernel
theorem d_X_set_32 : decode y_X_set.2.1 32 = .ok (.iload_n 2, 1) := by decide +kernel
theorem d_X_set_33 : decode y_X_set.2.1 33 = .ok (.aaload, 1) := by decide +kernel
theorem d_X_set_34 : decode y_X_set.2.1 34 = .ok (.getfield 138, 3) := by decide +kernel
theorem d_X_set_37 : decode y_X_set.2.1 37 = .ok (.istore 4, 2) := by decide +kernel
theorem d_X_set_39 : decode y_X_set.2.1 39 = .ok (.aload_n 0, 1) := by decide +kernel
theorem d_X_set_40 : decode y_X_set.2.1 40 = .ok (.getfield 19, 3) := by decide +kernel
theorem d_X_set_43 : decode y_X_set.2.1 43 = .ok (.getfield 102, 3) := by decide +kernel
theorem d_X_set_46 : decode y_X_set.2.1 46 = .ok (.iload_n 2, 1) := by decide +kernel
theorem d_X_set_47 : decode y_X_set.2.1 47 = .ok (.aaload, 1) := by decide +kernel
theorem d_X_set_48 : decode y_X_set.2.1 48 = .ok (.iload_n 3, 1) := by decide +kernel
theorem d_X_set_49 : decode y_X_set.2.1 49 = .ok (.putfield 138, 3) := by decide +kernel
theorem d_X_set_52 : decode y_X_set.2.1 52 = .ok (.iload 4, 2) := by decide +kernel
theorem d_X_set_54 : decode y_X_set.2.1 54 = .ok (.ireturn, 1) := by decide +kernel
theorem d_X_set_55 : decode y_X_set.2.1 55 = .ok (.iload_n 1, 1) := by decide +kernel
theorem d_X_set_56 : decode y_X_set.2.1 56 = .ok (.iconst 1, 1) := by decide +kernel
theorem d_X_set_57 : decode y_X_set.2.1 57 = .ok (.if_icmp .ne 45, 3) := by decide +kernel
theorem d_X_set_60 : decode y_X_set.2.1 60 = .ok (.iload_n 2, 1) := by decide +kernel
theorem d_X_set_61 : decode y_X_set.2.1 61 = .ok (.invokestatic 141, 3) := by decide +kernel
theorem d_X_set_64 : decode y_X_set.2.1 64 = .ok (.ifCond .eq 38, 3) := by decide +kernel
theorem d_X_set_67 : decode y_X_set.2.1 67 = .ok (.iload_n 3, 1) := by decide +kernel
theorem d_X_set_68 : decode y_X_set.2.1 68 = .ok (.iconst 1, 1) := by decide +kernel
theorem d_X_set_69 : decode y_X_set.2.1 69 = .ok (.if_icmp .lt 33, 3) := by decide +kernel
theorem d_X_set_72 : decode y_X_set.2.1 72 = .ok (.iload_n 3, 1) := by decide +kernel
theorem d_X_set_73 : decode y_X_set.2.1 73 = .ok (.bipush 6, 2) := by decide +kernel
theorem d_X_set_75 : decode y_X_set.2.1 75 = .ok (.if_icmp .gt 27, 3) := by decide +kernel
theorem d_X_set_78 : decode y_X_set.2.1 78 = .ok (.aload_n 0, 1) := by decide +kernel
theorem d_X_set_79 : decode y_X_set.2.1 79 = .ok (.getfield 19, 3) := by decide +kernel
theorem d_X_set_82 : decode y_X_set.2.1 82 = .ok (.getfield 144, 3) := by decide +kernel
theorem d_X_set_85 : decode y_X_set.2.1 85 = .ok (.iload_n 2, 1) := by decide +kernel
theorem d_X_set_86 : decode y_X_set.2.1 86 = .ok (.iaload, 1) := by decide +kernel
theorem d_X_set_87 : decode y_X_set.2.1 87 = .ok (.istore 4, 2) := by decide +kernel
theorem d_X_set_89 : decode y_X_set.2.1 89 = .ok (.aload_n 0, 1) := by decide +kernel
theorem d_X_set_90 : decode y_X_set.2.1 90 = .ok (.getfield 19, 3) := by decide +kernel
theorem d_X_set_93 : decode y_X_set.2.1 93 = .ok (.getfield 144, 3) := by decide +kernel
theorem d_X_set_96 : decode y_X_set.2.1 96 = .ok (.iload_n 2, 1) := by decide +kernel
theorem d_X_set_97 : decode y_X_set.2.1 97 = .ok (.iload_n 3, 1) := by decide +kernel
theorem d_X_set_98 : decode y_X_set.2.1 98 = .ok (.iastore, 1) := by decide +kernel
theorem d_X_set_99 : decode y_X_set.2.1 99 = .ok (.iload 4, 2) := by decide +kernel
theorem d_X_set_101 : decode y_X_set.2.1 101 = .ok (.ireturn, 1) := by decide +kernel
theorem d_X_set_102 : decode y_X_set.2.1 102 = .ok (.iconst (-1), 1) := by decide +kernel
theorem d_X_set_103 : decode y_X_set.2.1 103 = .ok (.ireturn, 1) := by decide +kernel
theorem d_X_sheet_0 : decode y_X_sheet.2.1 0 = .ok (.iload_n 1, 1) := by decide +kernel
theorem d_X_sheet_1 : decode y_X_sheet.2.1 1 = .ok (.ifCond .lt 14, 3) := by decide +kernel
theorem d_X_sheet_4 : decode y_X_sheet.2.1 4 = .ok (.iload_n 1, 1) := by decide +kernel
theorem d_X_sheet_5 : decode y_X_sheet.2.1 5 = .ok (.iconst 3, 1) := by decide +kernel
theorem d_X_sheet_6 : decode y_X_sheet.2.1 6 = .ok (.if_icmp .gt 9, 3) := by decide +kernel
theorem d_X_sheet_9 : decode y_X_sheet.2.1 9 = .ok (.iload_n 2, 1) := by decide +kernel
theorem d_X_sheet_10 : decode y_X_sheet.2.1 10 = .ok (.bipush 12, 2) := by decide +kernel
theorem d_X_sheet_12 : decode y_X_sheet.2.1 12 = .ok (.if_icmp .le 5, 3) := by decide +kernel
theorem d_X_sheet_15 : decode y_X_sheet.2.1 15 = .ok (.iconst (-1), 1) := by decide +kernel
theorem d_X_sheet_16 : decode y_X_sheet.2.1 16 = .ok (.ireturn, 1) := by decide +kernel
theorem d_X_sheet_17 : decode y_X_sheet.2.1 17 = .ok (.iload_n 1, 1) := by decide +kernel
theorem d_X_sheet_18 : decode y_X_sheet.2.1 18 = .ok (.iconst 3, 1) := by decide +kernel
theorem d_X_sheet_19 : decode y_X_sheet.2.1 19 = .ok (.if_icmp .ge 10, 3) := by decide +kernel
theorem d_X_sheet_22 : decode y_X_sheet.2.1 22 = .ok (.iload_n 2, 1) := by decide +kernel
theorem d_X_sheet_23 : decode y_X_sheet.2.1 23 = .ok (.ifCond .ge 6, 3) := by decide +kernel
theorem d_X_sheet_26 : decode y_X_sheet.2.1 26 = .ok (.bipush (-2), 2) := by decide +kernel
theorem d_X_sheet_28 : decode y_X_sheet.2.1 28 = .ok (.ireturn, 1) := by decide +kernel
theorem d_X_sheet_29 : decode y_X_sheet.2.1 29 = .ok (.iload_n 1, 1) := by decide +kernel
theorem d_X_sheet_30 : decode y_X_sheet.2.1 30 = .ok (.iconst 3, 1) := by decide +kernel
theorem d_X_sheet_31 : decode y_X_sheet.2.1 31 = .ok (.if_icmp .ne 7, 3) := by decide +kernel
theorem d_X_sheet_34 : decode y_X_sheet.2.1 34 = .ok (.iconst 0, 1) := by decide +kernel
theorem d_X_sheet_35 : decode y_X_sheet.2.1 35 = .ok (.goto 4, 3) := by decide +kernel
theorem d_X_sheet_38 : decode y_X_sheet.2.1 38 = .ok (.iload_n 2, 1) := by decide +kernel
theorem d_X_sheet_39 : decode y_X_sheet.2.1 39 = .ok (.istore 5, 2) := by decide +kernel
theorem d_X_sheet_41 : decode y_X_sheet.2.1 41 = .ok (.iconst 0, 1) := by decide +kernel
theorem d_X_sheet_42 : decode y_X_sheet.2.1 42 = .ok (.istore 6, 2) := by decide +kernel
theorem d_X_sheet_44 : decode y_X_sheet.2.1 44 = .ok (.iconst 0, 1) := by decide +kernel
theorem d_X_sheet_45 : decode y_X_sheet.2.1 45 = .ok (.istore 7, 2) := by decide +kernel
theorem d_X_sheet_47 : decode y_X_sheet.2.1 47 = .ok (.iload 7, 2) := by decide +kernel
theorem d_X_sheet_49 : decode y_X_sheet.2.1 49 = .ok (.aload_n 0, 1) := by decide +kernel
theorem d_X_sheet_50 : decode y_X_sheet.2.1 50 = .ok (.getfield 19, 3) := by decide +kernel
theorem d_X_sheet_53 : decode y_X_sheet.2.1 53 = .ok (.getfield 88, 3) := by decide +kernel
theorem d_X_sheet_56 : decode y_X_sheet.2.1 56 = .ok (.if_icmp .ge 56, 3) := by decide +kernel
theorem d_X_sheet_59 : decode y_X_sheet.2.1 59 = .ok (.iload 7, 2) := by decide +kernel
theorem d_X_sheet_61 : decode y_X_sheet.2.1 61 = .ok (.iload 5, 2) := by decide +kernel
theorem d_X_sheet_63 : decode y_X_sheet.2.1 63 = .ok (.if_icmp .ge 17, 3) := by decide +kernel
theorem d_X_sheet_66 : decode y_X_sheet.2.1 66 = .ok (.iload_n 1, 1) := by decide +kernel
theorem d_X_sheet_67 : decode y_X_sheet.2.1 67 = .ok (.iload_n 3, 1) := by decide +kernel
theorem d_X_sheet_68 : decode y_X_sheet.2.1 68 = .ok (.iload 7, 2) := by decide +kernel
theorem d_X_sheet_70 : decode y_X_sheet.2.1 70 = .ok (.iload 4, 2) := by decide +kernel
theorem d_X_sheet_72 : decode y_X_sheet.2.1 72 = .ok (.imul, 1) := by decide +kernel
theorem d_X_sheet_73 : decode y_X_sheet.2.1 73 = .ok (.iadd, 1) := by decide +kernel
theorem d_X_sheet_74 : decode y_X_sheet.2.1 74 = .ok (.invokestatic 147, 3) := by decide +kernel
theorem d_X_sheet_77 : decode y_X_sheet.2.1 77 = .ok (.goto 5, 3) := by decide +kernel
theorem d_X_sheet_80 : decode y_X_sheet.2.1 80 = .ok (.bipush 99, 2) := by decide +kernel
theorem d_X_sheet_82 : decode y_X_sheet.2.1 82 = .ok (.istore 8, 2) := by decide +kernel
theorem d_X_sheet_84 : decode y_X_sheet.2.1 84 = .ok (.aload_n 0, 1) := by decide +kernel
theorem d_X_sheet_85 : decode y_X_sheet.2.1 85 = .ok (.getfield 19, 3) := by decide +kernel
theorem d_X_sheet_88 : decode y_X_sheet.2.1 88 = .ok (.getfield 102, 3) := by decide +kernel
theorem d_X_sheet_91 : decode y_X_sheet.2.1 91 = .ok (.iload 7, 2) := by decide +kernel
theorem d_X_sheet_93 : decode y_X_sheet.2.1 93 = .ok (.aaload, 1) := by decide +kernel
theorem d_X_sheet_94 : decode y_X_sheet.2.1 94 = .ok (.iload 8, 2) := by decide +kernel
theorem d_X_sheet_96 : decode y_X_sheet.2.1 96 = .ok (.putfield 138, 3) := by decide +kernel
theorem d_X_sheet_99 : decode y_X_sheet.2.1 99 = .ok (.iload 6, 2) := by decide +kernel
theorem d_X_sheet_101 : decode y_X_sheet.2.1 101 = .ok (.iload 8, 2) := by decide +kernel
theorem d_X_sheet_103 : decode y_X_sheet.2.1 103 = .ok (.iadd, 1) := by decide +kernel
theorem d_X_sheet_104 : decode y_X_sheet.2.1 104 = .ok (.istore 6, 2) := by decide +kernel
theorem d_X_sheet_106 : decode y_X_sheet.2.1 106 = .ok (.iinc 7 1, 3) := by decide +kernel
theorem d_X_sheet_109 : decode y_X_sheet.2.1 109 = .ok (.goto (-62), 3) := by decide +kernel
theorem d_X_sheet_112 : decode y_X_sheet.2.1 112 = .ok (.iload_n 1, 1) := by decide +kernel
theorem d_X_sheet_113 : decode y_X_sheet.2.1 113 = .ok (.iconst 3, 1) := by decide +kernel
theorem d_X_sheet_114 : decode y_X_sheet.2.1 114 = .ok (.if_icmp .ne 8, 3) := by decide +kernel
theorem d_X_sheet_117 : decode y_X_sheet.2.1 117 = .ok (.bipush (-3), 2) := by decide +kernel
theorem d_X_sheet_119 : decode y_X_sheet.2.1 119 = .ok (.goto 5, 3) := by decide +kernel
theorem d_X_sheet_122 : decode y_X_sheet.2.1 122 = .ok (.iload 6, 2) := by decide +kernel
theorem d_X_sheet_124 : decode y_X_sheet.2.1 124 = .ok (.ireturn, 1) := by decide +kernel
theorem d_X_entry_0 : decode y_X_entry.2.1 0 = .ok (.iload_n 0, 1) := by decide +kernel
theorem d_X_entry_1 : decode y_X_entry.2.1 1 = .ok (.ifCond .ne 8, 3) := by decide +kernel
theorem d_X_entry_4 : decode y_X_entry.2.1 4 = .ok (.iload_n 1, 1) := by decide +kernel
theorem d_X_entry_5 : decode y_X_entry.2.1 5 = .ok (.i2b, 1) := by decide +kernel
theorem d_X_entry_6 : decode y_X_entry.2.1 6 = .ok (.goto 14, 3) := by decide +kernel
theorem d_X_entry_9 : decode y_X_entry.2.1 9 = .ok (.iload_n 0, 1) := by decide +kernel
theorem d_X_entry_10 : decode y_X_entry.2.1 10 = .ok (.iconst 1, 1) := by decide +kernel
theorem d_X_entry_11 : decode y_X_entry.2.1 11 = .ok (.if_icmp .ne 8, 3) := by decide +kernel
theorem d_X_entry_14 : decode y_X_entry.2.1 14 = .ok (.iload_n 1, 1) := by decide +kernel
theorem d_X_entry_15 : decode y_X_entry.2.1 15 = .ok (.i2s, 1) := by decide +kernel
theorem d_X_entry_16 : decode y_X_entry.2.1 16 = .ok (.goto 4, 3) := by decide +kernel
theorem d_X_entry_19 : decode y_X_entry.2.1 19 = .ok (.iload_n 1, 1) := by decide +kernel
theorem d_X_entry_20 : decode y_X_entry.2.1 20 = .ok (.istore_n 2, 1) := by decide +kernel
theorem d_X_entry_21 : decode y_X_entry.2.1 21 = .ok (.iconst 0, 1) := by decide +kernel
theorem d_X_entry_22 : decode y_X_entry.2.1 22 = .ok (.bipush 99, 2) := by decide +kernel
theorem d_X_entry_24 : decode y_X_entry.2.1 24 = .ok (.iload_n 2, 1) := by decide +kernel
theorem d_X_entry_25 : decode y_X_entry.2.1 25 = .ok (.invokestatic 151, 3) := by decide +kernel
theorem d_X_entry_28 : decode y_X_entry.2.1 28 = .ok (.invokestatic 156, 3) := by decide +kernel
theorem d_X_entry_31 : decode y_X_entry.2.1 31 = .ok (.ireturn, 1) := by decide +kernel
theorem d_X_about_0 : decode y_X_about.2.1 0 = .ok (.aload_n 0, 1) := by decide +kernel
theorem d_X_about_1 : decode y_X_about.2.1 1 = .ok (.getfield 19, 3) := by decide +kernel
theorem d_X_about_4 : decode y_X_about.2.1 4 = .ok (.iload_n 1, 1) := by decide +kernel
theorem d_X_about_5 : decode y_X_about.2.1 5 = .ok (.invokevirtual 92, 3) := by decide +kernel
theorem d_X_about_8 : decode y_X_about.2.1 8 = .ok (.ifCond .ne 13, 3) := by decide +kernel
theorem d_X_about_11 : decode y_X_about.2.1 11 = .ok (.new 159, 3) := by decide +kernel
theorem d_X_about_14 : decode y_X_about.2.1 14 = .ok (.dup, 1) := by decide +kernel
theorem d_X_about_15 : decode y_X_about.2.1 15 = .ok (.ldc 161, 2) := by decide +kernel
theorem d_X_about_17 : decode y_X_about.2.1 17 = .ok (.invokespecial 163, 3) := by decide +kernel
theorem d_X_about_20 : decode y_X_about.2.1 20 = .ok (.athrow, 1) := by decide +kernel
theorem d_X_about_21 : decode y_X_about.2.1 21 = .ok (.aload_n 0, 1) := by decide +kernel
theorem d_X_about_22 : decode y_X_about.2.1 22 = .ok (.getfield 19, 3) := by decide +kernel
theorem d_X_about_25 : decode y_X_about.2.1 25 = .ok (.getfield 102, 3) := by decide +kernel
theorem d_X_about_28 : decode y_X_about.2.1 28 = .ok (.iload_n 1, 1) := by decide +kernel
theorem d_X_about_29 : decode y_X_about.2.1 29 = .ok (.aaload, 1) := by decide +kernel
theorem d_X_about_30 : decode y_X_about.2.1 30 = .ok (.astore_n 3, 1) := by decide +kernel
theorem d_X_about_31 : decode y_X_about.2.1 31 = .ok (.iload_n 2, 1) := by decide +kernel
theorem d_X_about_32 : decode y_X_about.2.1 32 = .ok (.tableswitch 73 0 4 #[36, 41, 46, 55, 60], 36) := by decide +kernel
theorem d_X_about_68 : decode y_X_about.2.1 68 = .ok (.aload_n 3, 1) := by decide +kernel
theorem d_X_about_69 : decode y_X_about.2.1 69 = .ok (.getfield 138, 3) := by decide +kernel
theorem d_X_about_72 : decode y_X_about.2.1 72 = .ok (.ireturn, 1) := by decide +kernel
theorem d_X_about_73 : decode y_X_about.2.1 73 = .ok (.aload_n 3, 1) := by decide +kernel
theorem d_X_about_74 : decode y_X_about.2.1 74 = .ok (.getfield 166, 3) := by decide +kernel
theorem d_X_about_77 : decode y_X_about.2.1 77 = .ok (.ireturn, 1) := by decide +kernel
theorem d_X_about_78 : decode y_X_about.2.1 78 = .ok (.aload_n 0, 1) := by decide +kernel
theorem d_X_about_79 : decode y_X_about.2.1 79 = .ok (.getfield 115, 3) := by decide +kernel
theorem d_X_about_82 : decode y_X_about.2.1 82 = .ok (.iload_n 1, 1) := by decide +kernel
theorem d_X_about_83 : decode y_X_about.2.1 83 = .ok (.invokestatic 119, 3) := by decide +kernel
theorem d_X_about_86 : decode y_X_about.2.1 86 = .ok (.ireturn, 1) := by decide +kernel
theorem d_X_about_87 : decode y_X_about.2.1 87 = .ok (.aload_n 3, 1) := by decide +kernel
theorem d_X_about_88 : decode y_X_about.2.1 88 = .ok (.getfield 169, 3) := by decide +kernel
theorem d_X_about_91 : decode y_X_about.2.1 91 = .ok (.ireturn, 1) := by decide +kernel
theorem d_X_about_92 : decode y_X_about.2.1 92 = .ok (.aload_n 3, 1) := by decide +kernel
theorem d_X_about_93 : decode y_X_about.2.1 93 = .ok (.invokevirtual 172, 3) := by decide +kernel
theorem d_X_about_96 : decode y_X_about.2.1 96 = .ok (.ifCond .eq 7, 3) := by decide +kernel
theorem d_X_about_99 : decode y_X_about.2.1 99 = .ok (.iconst 1, 1) := by decide +kernel
theorem d_X_about_100 : decode y_X_about.2.1 100 = .ok (.goto 4, 3) := by decide +kernel
theorem d_X_about_103 : decode y_X_about.2.1 103 = .ok (.iconst 0, 1) := by decide +kernel
theorem d_X_about_104 : decode y_X_about.2.1 104 = .ok (.ireturn, 1) := by decide +kernel
theorem d_X_about_105 : decode y_X_about.2.1 105 = .ok (.new 159, 3) := by decide +kernel
theorem d_X_about_108 : decode y_X_about.2.1 108 = .ok (.dup, 1) := by decide +kernel
theorem d_X_about_109 : decode y_X_about.2.1 109 = .ok (.ldc 176, 2) := by decide +kernel
theorem d_X_about_111 : decode y_X_about.2.1 111 = .ok (.invokespecial 163, 3) := by decide +kernel
theorem d_X_about_114 : decode y_X_about.2.1 114 = .ok (.athrow, 1) := by decide +kernel
theorem d_X_open_0 : decode y_X_open.2.1 0 = .ok (.iload_n 1, 1) := by decide +kernel
theorem d_X_open_1 : decode y_X_open.2.1 1 = .ok (.invokestatic 141, 3) := by decide +kernel
theorem d_X_open_4 : decode y_X_open.2.1 4 = .ok (.ifCond .eq 14, 3) := by decide +kernel
theorem d_X_open_7 : decode y_X_open.2.1 7 = .ok (.aload_n 0, 1) := by decide +kernel
theorem d_X_open_8 : decode y_X_open.2.1 8 = .ok (.getfield 115, 3) := by decide +kernel
theorem d_X_open_11 : decode y_X_open.2.1 11 = .ok (.iload_n 1, 1) := by decide +kernel
theorem d_X_open_12 : decode y_X_open.2.1 12 = .ok (.invokestatic 178, 3) := by decide +kernel
theorem d_X_open_15 : decode y_X_open.2.1 15 = .ok (.goto 4, 3) := by decide +kernel
theorem d_X_open_18 : decode y_X_open.2.1 18 = .ok (.iconst (-1), 1) := by decide +kernel
theorem d_X_open_19 : decode y_X_open.2.1 19 = .ok (.ireturn, 1) := by decide +kernel
theorem d_X_value_0 : decode y_X_value.2.1 0 = .ok (.aload_n 0, 1) := by decide +kernel
theorem d_X_value_1 : decode y_X_value.2.1 1 = .ok (.getfield 19, 3) := by decide +kernel
theorem d_X_value_4 : decode y_X_value.2.1 4 = .ok (.iload_n 1, 1) := by decide +kernel
theorem d_X_value_5 : decode y_X_value.2.1 5 = .ok (.invokevirtual 92, 3) := by decide +kernel
theorem d_X_value_8 : decode y_X_value.2.1 8 = .ok (.ifCond .eq 10, 3) := by decide +kernel
theorem d_X_value_11 : decode y_X_value.2.1 11 = .ok (.iload_n 2, 1) := by decide +kernel
theorem d_X_value_12 : decode y_X_value.2.1 12 = .ok (.invokestatic 141, 3) := by decide +kernel
theorem d_X_value_15 : decode y_X_value.2.1 15 = .ok (.ifCond .ne 13, 3) := by decide +kernel
theorem d_X_value_18 : decode y_X_value.2.1 18 = .ok (.new 159, 3) := by decide +kernel
theorem d_X_value_21 : decode y_X_value.2.1 21 = .ok (.dup, 1) := by decide +kernel
theorem d_X_value_22 : decode y_X_value.2.1 22 = .ok (.ldc 181, 2) := by decide +kernel
theorem d_X_value_24 : decode y_X_value.2.1 24 = .ok (.invokespecial 163, 3) := by decide +kernel
theorem d_X_value_27 : decode y_X_value.2.1 27 = .ok (.athrow, 1) := by decide +kernel
theorem d_X_value_28 : decode y_X_value.2.1 28 = .ok (.aload_n 0, 1) := by decide +kernel
theorem d_X_value_29 : decode y_X_value.2.1 29 = .ok (.getfield 19, 3) := by decide +kernel
theorem d_X_value_32 : decode y_X_value.2.1 32 = .ok (.getfield 102, 3) := by decide +kernel
theorem d_X_value_35 : decode y_X_value.2.1 35 = .ok (.iload_n 1, 1) := by decide +kernel
theorem d_X_value_36 : decode y_X_value.2.1 36 = .ok (.aaload, 1) := by decide +kernel
theorem d_X_value_37 : decode y_X_value.2.1 37 = .ok (.astore_n 3, 1) := by decide +kernel
theorem d_X_value_38 : decode y_X_value.2.1 38 = .ok (.aload_n 3, 1) := by decide +kernel
theorem d_X_value_39 : decode y_X_value.2.1 39 = .ok (.invokevirtual 183, 3) := by decide +kernel
theorem d_X_value_42 : decode y_X_value.2.1 42 = .ok (.aload_n 0, 1) := by decide +kernel
theorem d_X_value_43 : decode y_X_value.2.1 43 = .ok (.getfield 115, 3) := by decide +kernel
theorem d_X_value_46 : decode y_X_value.2.1 46 = .ok (.iload_n 2, 1) := by decide +kernel
theorem d_X_value_47 : decode y_X_value.2.1 47 = .ok (.invokestatic 178, 3) := by decide +kernel
theorem d_X_value_50 : decode y_X_value.2.1 50 = .ok (.aload_n 3, 1) := by decide +kernel
theorem d_X_value_51 : decode y_X_value.2.1 51 = .ok (.getfield 169, 3) := by decide +kernel
theorem d_X_value_54 : decode y_X_value.2.1 54 = .ok (.iload_n 2, 1) := by decide +kernel
theorem d_X_value_55 : decode y_X_value.2.1 55 = .ok (.invokevirtual 187, 3) := by decide +kernel
theorem d_X_value_58 : decode y_X_value.2.1 58 = .ok (.ireturn, 1) := by decide +kernel
theorem d_X_act_0 : decode y_X_act.2.1 0 = .ok (.aload_n 0, 1) := by decide +kernel
theorem d_X_act_1 : decode y_X_act.2.1 1 = .ok (.getfield 19, 3) := by decide +kernel
theorem d_X_act_4 : decode y_X_act.2.1 4 = .ok (.aload_n 0, 1) := by decide +kernel
theorem d_X_act_5 : decode y_X_act.2.1 5 = .ok (.getfield 115, 3) := by decide +kernel
theorem d_X_act_8 : decode y_X_act.2.1 8 = .ok (.aload_n 0, 1) := by decide +kernel
theorem d_X_act_9 : decode y_X_act.2.1 9 = .ok (.getfield 19, 3) := by decide +kernel
theorem d_X_act_12 : decode y_X_act.2.1 12 = .ok (.invokevirtual 191, 3) := by decide +kernel
theorem d_X_act_15 : decode y_X_act.2.1 15 = .ok (.iload_n 1, 1) := by decide +kernel
theorem d_X_act_16 : decode y_X_act.2.1 16 = .ok (.invokevirtual 195, 3) := by decide +kernel
theorem d_X_act_19 : decode y_X_act.2.1 19 = .ok (.istore_n 2, 1) := by decide +kernel
theorem d_X_act_20 : decode y_X_act.2.1 20 = .ok (.iload_n 2, 1) := by decide +kernel
theorem d_X_act_21 : decode y_X_act.2.1 21 = .ok (.ifCond .eq 7, 3) := by decide +kernel
theorem d_X_act_24 : decode y_X_act.2.1 24 = .ok (.iload_n 2, 1) := by decide +kernel
theorem d_X_act_25 : decode y_X_act.2.1 25 = .ok (.goto 8, 3) := by decide +kernel
theorem d_X_act_28 : decode y_X_act.2.1 28 = .ok (.aload_n 0, 1) := by decide +kernel
theorem d_X_act_29 : decode y_X_act.2.1 29 = .ok (.iload_n 1, 1) := by decide +kernel
theorem d_X_act_30 : decode y_X_act.2.1 30 = .ok (.invokevirtual 199, 3) := by decide +kernel
theorem d_X_act_33 : decode y_X_act.2.1 33 = .ok (.ireturn, 1) := by decide +kernel
theorem d_X_make_0 : decode y_X_make.2.1 0 = .ok (.iconst 1, 1) := by decide +kernel
theorem d_X_make_1 : decode y_X_make.2.1 1 = .ok (.iload_n 1, 1) := by decide +kernel
theorem d_X_make_2 : decode y_X_make.2.1 2 = .ok (.bipush 20, 2) := by decide +kernel
theorem d_X_make_4 : decode y_X_make.2.1 4 = .ok (.irem, 1) := by decide +kernel
theorem d_X_make_5 : decode y_X_make.2.1 5 = .ok (.ishl, 1) := by decide +kernel
theorem d_X_make_6 : decode y_X_make.2.1 6 = .ok (.istore_n 2, 1) := by decide +kernel
theorem d_X_make_7 : decode y_X_make.2.1 7 = .ok (.iload_n 1, 1) := by decide +kernel
theorem d_X_make_8 : decode y_X_make.2.1 8 = .ok (.bipush 20, 2) := by decide +kernel
theorem d_X_make_10 : decode y_X_make.2.1 10 = .ok (.idiv, 1) := by decide +kernel
theorem d_X_make_11 : decode y_X_make.2.1 11 = .ok (.iconst 3, 1) := by decide +kernel
theorem d_X_make_12 : decode y_X_make.2.1 12 = .ok (.if_icmp .ne 7, 3) := by decide +kernel
theorem d_X_make_15 : decode y_X_make.2.1 15 = .ok (.iconst 1, 1) := by decide +kernel
theorem d_X_make_16 : decode y_X_make.2.1 16 = .ok (.goto 4, 3) := by decide +kernel
theorem d_X_make_19 : decode y_X_make.2.1 19 = .ok (.iconst 0, 1) := by decide +kernel
theorem d_X_make_20 : decode y_X_make.2.1 20 = .ok (.istore_n 3, 1) := by decide +kernel
theorem d_X_make_21 : decode y_X_make.2.1 21 = .ok (.iload_n 3, 1) := by decide +kernel
theorem d_X_make_22 : decode y_X_make.2.1 22 = .ok (.ifCond .eq 17, 3) := by decide +kernel
theorem d_X_make_25 : decode y_X_make.2.1 25 = .ok (.aload_n 0, 1) := by decide +kernel
theorem d_X_make_26 : decode y_X_make.2.1 26 = .ok (.getfield 115, 3) := by decide +kernel
theorem d_X_make_29 : decode y_X_make.2.1 29 = .ok (.invokestatic 202, 3) := by decide +kernel
theorem d_X_make_32 : decode y_X_make.2.1 32 = .ok (.iload_n 2, 1) := by decide +kernel
theorem d_X_make_33 : decode y_X_make.2.1 33 = .ok (.iconst (-1), 1) := by decide +kernel
theorem d_X_make_34 : decode y_X_make.2.1 34 = .ok (.ixor, 1) := by decide +kernel
theorem d_X_make_35 : decode y_X_make.2.1 35 = .ok (.iand, 1) := by decide +kernel
theorem d_X_make_36 : decode y_X_make.2.1 36 = .ok (.goto 12, 3) := by decide +kernel
theorem d_X_make_39 : decode y_X_make.2.1 39 = .ok (.aload_n 0, 1) := by decide +kernel
theorem d_X_make_40 : decode y_X_make.2.1 40 = .ok (.getfield 115, 3) := by decide +kernel
theorem d_X_make_43 : decode y_X_make.2.1 43 = .ok (.invokestatic 202, 3) := by decide +kernel
theorem d_X_make_46 : decode y_X_make.2.1 46 = .ok (.iload_n 2, 1) := by decide +kernel
theorem d_X_make_47 : decode y_X_make.2.1 47 = .ok (.ior, 1) := by decide +kernel
theorem d_X_make_48 : decode y_X_make.2.1 48 = .ok (.istore 4, 2) := by decide +kernel
theorem d_X_make_50 : decode y_X_make.2.1 50 = .ok (.iload_n 1, 1) := by decide +kernel
theorem d_X_make_51 : decode y_X_make.2.1 51 = .ok (.bipush 20, 2) := by decide +kernel
theorem d_X_make_53 : decode y_X_make.2.1 53 = .ok (.idiv, 1) := by decide +kernel
theorem d_X_make_54 : decode y_X_make.2.1 54 = .ok (.iconst 3, 1) := by decide +kernel
theorem d_X_make_55 : decode y_X_make.2.1 55 = .ok (.if_icmp .ge 24, 3) := by decide +kernel
theorem d_X_make_58 : decode y_X_make.2.1 58 = .ok (.aload_n 0, 1) := by decide +kernel
theorem d_X_make_59 : decode y_X_make.2.1 59 = .ok (.getfield 19, 3) := by decide +kernel
theorem d_X_make_62 : decode y_X_make.2.1 62 = .ok (.getfield 102, 3) := by decide +kernel
theorem d_X_make_65 : decode y_X_make.2.1 65 = .ok (.iload_n 1, 1) := by decide +kernel
theorem d_X_make_66 : decode y_X_make.2.1 66 = .ok (.bipush 20, 2) := by decide +kernel
theorem d_X_make_68 : decode y_X_make.2.1 68 = .ok (.irem, 1) := by decide +kernel
theorem d_X_make_69 : decode y_X_make.2.1 69 = .ok (.aaload, 1) := by decide +kernel
theorem d_X_make_70 : decode y_X_make.2.1 70 = .ok (.dup, 1) := by decide +kernel
theorem d_X_make_71 : decode y_X_make.2.1 71 = .ok (.getfield 166, 3) := by decide +kernel
theorem d_X_make_74 : decode y_X_make.2.1 74 = .ok (.iconst 1, 1) := by decide +kernel
theorem d_X_make_75 : decode y_X_make.2.1 75 = .ok (.iadd, 1) := by decide +kernel
theorem d_X_make_76 : decode y_X_make.2.1 76 = .ok (.putfield 166, 3) := by decide +kernel
theorem d_X_make_79 : decode y_X_make.2.1 79 = .ok (.aload_n 0, 1) := by decide +kernel
theorem d_X_make_80 : decode y_X_make.2.1 80 = .ok (.aload_n 0, 1) := by decide +kernel
theorem d_X_make_81 : decode y_X_make.2.1 81 = .ok (.getfield 19, 3) := by decide +kernel
theorem d_X_make_84 : decode y_X_make.2.1 84 = .ok (.aload_n 0, 1) := by decide +kernel
theorem d_X_make_85 : decode y_X_make.2.1 85 = .ok (.getfield 115, 3) := by decide +kernel
theorem d_X_make_88 : decode y_X_make.2.1 88 = .ok (.iload_n 1, 1) := by decide +kernel
theorem d_X_make_89 : decode y_X_make.2.1 89 = .ok (.invokevirtual 206, 3) := by decide +kernel
theorem d_X_make_92 : decode y_X_make.2.1 92 = .ok (.putfield 115, 3) := by decide +kernel
theorem d_X_make_95 : decode y_X_make.2.1 95 = .ok (.iload 4, 2) := by decide +kernel
theorem d_X_make_97 : decode y_X_make.2.1 97 = .ok (.aload_n 0, 1) := by decide +kernel
theorem d_X_make_98 : decode y_X_make.2.1 98 = .ok (.getfield 115, 3) := by decide +kernel
theorem d_X_make_101 : decode y_X_make.2.1 101 = .ok (.invokestatic 202, 3) := by decide +kernel
theorem d_X_make_104 : decode y_X_make.2.1 104 = .ok (.iconst (-1), 1) := by decide +kernel
theorem d_X_make_105 : decode y_X_make.2.1 105 = .ok (.ixor, 1) := by decide +kernel
theorem d_X_make_106 : decode y_X_make.2.1 106 = .ok (.iand, 1) := by decide +kernel
theorem d_X_make_107 : decode y_X_make.2.1 107 = .ok (.ireturn, 1) := by decide +kernel
theorem d_X_why_0 : decode y_X_why.2.1 0 = .ok (.aload_n 0, 1) := by decide +kernel
theorem d_X_why_1 : decode y_X_why.2.1 1 = .ok (.getfield 19, 3) := by decide +kernel
theorem d_X_why_4 : decode y_X_why.2.1 4 = .ok (.aload_n 0, 1) := by decide +kernel
theorem d_X_why_5 : decode y_X_why.2.1 5 = .ok (.getfield 115, 3) := by decide +kernel
theorem d_X_why_8 : decode y_X_why.2.1 8 = .ok (.aload_n 0, 1) := by decide +kernel
theorem d_X_why_9 : decode y_X_why.2.1 9 = .ok (.getfield 19, 3) := by decide +kernel
theorem d_X_why_12 : decode y_X_why.2.1 12 = .ok (.invokevirtual 191, 3) := by decide +kernel
theorem d_X_why_15 : decode y_X_why.2.1 15 = .ok (.iload_n 1, 1) := by decide +kernel
theorem d_X_why_16 : decode y_X_why.2.1 16 = .ok (.invokevirtual 195, 3) := by decide +kernel
theorem d_X_why_19 : decode y_X_why.2.1 19 = .ok (.ireturn, 1) := by decide +kernel
theorem d_X_can_0 : decode y_X_can.2.1 0 = .ok (.aload_n 0, 1) := by decide +kernel
theorem d_X_can_1 : decode y_X_can.2.1 1 = .ok (.getfield 19, 3) := by decide +kernel
theorem d_X_can_4 : decode y_X_can.2.1 4 = .ok (.invokevirtual 191, 3) := by decide +kernel
theorem d_X_can_7 : decode y_X_can.2.1 7 = .ok (.istore_n 1, 1) := by decide +kernel
theorem d_X_can_8 : decode y_X_can.2.1 8 = .ok (.iconst 0, 1) := by decide +kernel
theorem d_X_can_9 : decode y_X_can.2.1 9 = .ok (.istore_n 2, 1) := by decide +kernel
theorem d_X_can_10 : decode y_X_can.2.1 10 = .ok (.aload_n 0, 1) := by decide +kernel
theorem d_X_can_11 : decode y_X_can.2.1 11 = .ok (.iconst 0, 1) := by decide +kernel
theorem d_X_can_12 : decode y_X_can.2.1 12 = .ok (.putfield 209, 3) := by decide +kernel
theorem d_X_can_15 : decode y_X_can.2.1 15 = .ok (.iconst 0, 1) := by decide +kernel
theorem d_X_can_16 : decode y_X_can.2.1 16 = .ok (.istore_n 3, 1) := by decide +kernel
theorem d_X_can_17 : decode y_X_can.2.1 17 = .ok (.iload_n 3, 1) := by decide +kernel
theorem d_X_can_18 : decode y_X_can.2.1 18 = .ok (.bipush 7, 2) := by decide +kernel
theorem d_X_can_20 : decode y_X_can.2.1 20 = .ok (.if_icmp .ge 79, 3) := by decide +kernel
theorem d_X_can_23 : decode y_X_can.2.1 23 = .ok (.iload_n 3, 1) := by decide +kernel
theorem d_X_can_24 : decode y_X_can.2.1 24 = .ok (.iconst 3, 1) := by decide +kernel
theorem d_X_can_25 : decode y_X_can.2.1 25 = .ok (.if_icmp .ne 7, 3) := by decide +kernel
theorem d_X_can_28 : decode y_X_can.2.1 28 = .ok (.iconst 0, 1) := by decide +kernel
theorem d_X_can_29 : decode y_X_can.2.1 29 = .ok (.goto 16, 3) := by decide +kernel
theorem d_X_can_32 : decode y_X_can.2.1 32 = .ok (.aload_n 0, 1) := by decide +kernel
theorem d_X_can_33 : decode y_X_can.2.1 33 = .ok (.getfield 19, 3) := by decide +kernel
theorem d_X_can_36 : decode y_X_can.2.1 36 = .ok (.aload_n 0, 1) := by decide +kernel
theorem d_X_can_37 : decode y_X_can.2.1 37 = .ok (.getfield 115, 3) := by decide +kernel
theorem d_X_can_40 : decode y_X_can.2.1 40 = .ok (.iload_n 1, 1) := by decide +kernel
theorem d_X_can_41 : decode y_X_can.2.1 41 = .ok (.iload_n 3, 1) := by decide +kernel
theorem d_X_can_42 : decode y_X_can.2.1 42 = .ok (.invokevirtual 212, 3) := by decide +kernel
theorem d_X_can_45 : decode y_X_can.2.1 45 = .ok (.istore 4, 2) := by decide +kernel
theorem d_X_can_47 : decode y_X_can.2.1 47 = .ok (.iconst 0, 1) := by decide +kernel
theorem d_X_can_48 : decode y_X_can.2.1 48 = .ok (.istore 5, 2) := by decide +kernel
theorem d_X_can_50 : decode y_X_can.2.1 50 = .ok (.iload 5, 2) := by decide +kernel
theorem d_X_can_52 : decode y_X_can.2.1 52 = .ok (.bipush 12, 2) := by decide +kernel
theorem d_X_can_54 : decode y_X_can.2.1 54 = .ok (.if_icmp .ge 39, 3) := by decide +kernel
theorem d_X_can_57 : decode y_X_can.2.1 57 = .ok (.iload 4, 2) := by decide +kernel
theorem d_X_can_59 : decode y_X_can.2.1 59 = .ok (.iload 5, 2) := by decide +kernel
theorem d_X_can_61 : decode y_X_can.2.1 61 = .ok (.ishr, 1) := by decide +kernel
theorem d_X_can_62 : decode y_X_can.2.1 62 = .ok (.iconst 1, 1) := by decide +kernel
theorem d_X_can_63 : decode y_X_can.2.1 63 = .ok (.iand, 1) := by decide +kernel
theorem d_X_can_64 : decode y_X_can.2.1 64 = .ok (.ifCond .eq 23, 3) := by decide +kernel
theorem d_X_can_67 : decode y_X_can.2.1 67 = .ok (.iinc 2 1, 3) := by decide +kernel
theorem d_X_can_70 : decode y_X_can.2.1 70 = .ok (.iload_n 2, 1) := by decide +kernel
theorem d_X_can_71 : decode y_X_can.2.1 71 = .ok (.bipush 8, 2) := by decide +kernel
theorem d_X_can_73 : decode y_X_can.2.1 73 = .ok (.if_icmp .gt 14, 3) := by decide +kernel
theorem d_X_can_76 : decode y_X_can.2.1 76 = .ok (.aload_n 0, 1) := by decide +kernel
theorem d_X_can_77 : decode y_X_can.2.1 77 = .ok (.iload_n 3, 1) := by decide +kernel
theorem d_X_can_78 : decode y_X_can.2.1 78 = .ok (.bipush 20, 2) := by decide +kernel
theorem d_X_can_80 : decode y_X_can.2.1 80 = .ok (.imul, 1) := by decide +kernel
theorem d_X_can_81 : decode y_X_can.2.1 81 = .ok (.iload 5, 2) := by decide +kernel
theorem d_X_can_83 : decode y_X_can.2.1 83 = .ok (.iadd, 1) := by decide +kernel
theorem d_X_can_84 : decode y_X_can.2.1 84 = .ok (.invokevirtual 215, 3) := by decide +kernel
theorem d_X_can_87 : decode y_X_can.2.1 87 = .ok (.iinc 5 1, 3) := by decide +kernel
theorem d_X_can_90 : decode y_X_can.2.1 90 = .ok (.goto (-40), 3) := by decide +kernel
theorem d_X_can_93 : decode y_X_can.2.1 93 = .ok (.iinc 3 1, 3) := by decide +kernel
theorem d_X_can_96 : decode y_X_can.2.1 96 = .ok (.goto (-79), 3) := by decide +kernel
theorem d_X_can_99 : decode y_X_can.2.1 99 = .ok (.iload_n 2, 1) := by decide +kernel
theorem d_X_can_100 : decode y_X_can.2.1 100 = .ok (.ireturn, 1) := by decide +kernel
theorem d_X_night_0 : decode y_X_night.2.1 0 = .ok (.aload_n 0, 1) := by decide +kernel
theorem d_X_night_1 : decode y_X_night.2.1 1 = .ok (.getfield 19, 3) := by decide +kernel
theorem d_X_night_4 : decode y_X_night.2.1 4 = .ok (.iload_n 1, 1) := by decide +kernel
theorem d_X_night_5 : decode y_X_night.2.1 5 = .ok (.invokevirtual 218, 3) := by decide +kernel
theorem d_X_night_8 : decode y_X_night.2.1 8 = .ok (.ifCond .eq 5, 3) := by decide +kernel
theorem d_X_night_11 : decode y_X_night.2.1 11 = .ok (.iconst (-1), 1) := by decide +kernel
theorem d_X_night_12 : decode y_X_night.2.1 12 = .ok (.ireturn, 1) := by decide +kernel
theorem d_X_night_13 : decode y_X_night.2.1 13 = .ok (.iconst 0, 1) := by decide +kernel
theorem d_X_night_14 : decode y_X_night.2.1 14 = .ok (.istore_n 2, 1) := by decide +kernel
theorem d_X_night_15 : decode y_X_night.2.1 15 = .ok (.iload_n 2, 1) := by decide +kernel
theorem d_X_night_16 : decode y_X_night.2.1 16 = .ok (.iconst 3, 1) := by decide +kernel
theorem d_X_night_17 : decode y_X_night.2.1 17 = .ok (.if_icmp .ge 47, 3) := by decide +kernel
theorem d_X_night_20 : decode y_X_night.2.1 20 = .ok (.aload_n 0, 1) := by decide +kernel
theorem d_X_night_21 : decode y_X_night.2.1 21 = .ok (.aload_n 0, 1) := by decide +kernel
theorem d_X_night_22 : decode y_X_night.2.1 22 = .ok (.getfield 115, 3) := by decide +kernel
theorem d_X_night_25 : decode y_X_night.2.1 25 = .ok (.iload_n 2, 1) := by decide +kernel
theorem d_X_night_26 : decode y_X_night.2.1 26 = .ok (.aload_n 0, 1) := by decide +kernel
theorem d_X_night_27 : decode y_X_night.2.1 27 = .ok (.getfield 115, 3) := by decide +kernel
theorem d_X_night_30 : decode y_X_night.2.1 30 = .ok (.iload_n 2, 1) := by decide +kernel
theorem d_X_night_31 : decode y_X_night.2.1 31 = .ok (.invokestatic 178, 3) := by decide +kernel
theorem d_X_night_34 : decode y_X_night.2.1 34 = .ok (.iload_n 1, 1) := by decide +kernel
theorem d_X_night_35 : decode y_X_night.2.1 35 = .ok (.iand, 1) := by decide +kernel
theorem d_X_night_36 : decode y_X_night.2.1 36 = .ok (.invokestatic 221, 3) := by decide +kernel
theorem d_X_night_39 : decode y_X_night.2.1 39 = .ok (.putfield 115, 3) := by decide +kernel
theorem d_X_night_42 : decode y_X_night.2.1 42 = .ok (.aload_n 0, 1) := by decide +kernel
theorem d_X_night_43 : decode y_X_night.2.1 43 = .ok (.aload_n 0, 1) := by decide +kernel
theorem d_X_night_44 : decode y_X_night.2.1 44 = .ok (.getfield 19, 3) := by decide +kernel
theorem d_X_night_47 : decode y_X_night.2.1 47 = .ok (.aload_n 0, 1) := by decide +kernel
theorem d_X_night_48 : decode y_X_night.2.1 48 = .ok (.getfield 115, 3) := by decide +kernel
theorem d_X_night_51 : decode y_X_night.2.1 51 = .ok (.iload_n 2, 1) := by decide +kernel
theorem d_X_night_52 : decode y_X_night.2.1 52 = .ok (.invokevirtual 123, 3) := by decide +kernel
theorem d_X_night_55 : decode y_X_night.2.1 55 = .ok (.putfield 115, 3) := by decide +kernel
theorem d_X_night_58 : decode y_X_night.2.1 58 = .ok (.iinc 2 1, 3) := by decide +kernel
theorem d_X_night_61 : decode y_X_night.2.1 61 = .ok (.goto (-46), 3) := by decide +kernel
theorem d_X_night_64 : decode y_X_night.2.1 64 = .ok (.aload_n 0, 1) := by decide +kernel
theorem d_X_night_65 : decode y_X_night.2.1 65 = .ok (.getfield 115, 3) := by decide +kernel
theorem d_X_night_68 : decode y_X_night.2.1 68 = .ok (.invokestatic 202, 3) := by decide +kernel
theorem d_X_night_71 : decode y_X_night.2.1 71 = .ok (.ireturn, 1) := by decide +kernel
theorem d_X_judge_0 : decode y_X_judge.2.1 0 = .ok (.iload_n 1, 1) := by decide +kernel
theorem d_X_judge_1 : decode y_X_judge.2.1 1 = .ok (.ifCond .lt 9, 3) := by decide +kernel
theorem d_X_judge_4 : decode y_X_judge.2.1 4 = .ok (.iload_n 1, 1) := by decide +kernel
theorem d_X_judge_5 : decode y_X_judge.2.1 5 = .ok (.bipush 8, 2) := by decide +kernel
theorem d_X_judge_7 : decode y_X_judge.2.1 7 = .ok (.if_icmp .le 5, 3) := by decide +kernel
theorem d_X_judge_10 : decode y_X_judge.2.1 10 = .ok (.iconst (-1), 1) := by decide +kernel
theorem d_X_judge_11 : decode y_X_judge.2.1 11 = .ok (.ireturn, 1) := by decide +kernel
theorem d_X_judge_12 : decode y_X_judge.2.1 12 = .ok (.iconst 0, 1) := by decide +kernel
theorem d_X_judge_13 : decode y_X_judge.2.1 13 = .ok (.istore 4, 2) := by decide +kernel
theorem d_X_judge_15 : decode y_X_judge.2.1 15 = .ok (.iload 4, 2) := by decide +kernel
theorem d_X_judge_17 : decode y_X_judge.2.1 17 = .ok (.aload_n 0, 1) := by decide +kernel
theorem d_X_judge_18 : decode y_X_judge.2.1 18 = .ok (.getfield 19, 3) := by decide +kernel
theorem d_X_judge_21 : decode y_X_judge.2.1 21 = .ok (.getfield 88, 3) := by decide +kernel
theorem d_X_judge_24 : decode y_X_judge.2.1 24 = .ok (.if_icmp .ge 29, 3) := by decide +kernel
theorem d_X_judge_27 : decode y_X_judge.2.1 27 = .ok (.aload_n 0, 1) := by decide +kernel
theorem d_X_judge_28 : decode y_X_judge.2.1 28 = .ok (.getfield 69, 3) := by decide +kernel
theorem d_X_judge_31 : decode y_X_judge.2.1 31 = .ok (.iload 4, 2) := by decide +kernel
theorem d_X_judge_33 : decode y_X_judge.2.1 33 = .ok (.aload_n 0, 1) := by decide +kernel
theorem d_X_judge_34 : decode y_X_judge.2.1 34 = .ok (.getfield 19, 3) := by decide +kernel
theorem d_X_judge_37 : decode y_X_judge.2.1 37 = .ok (.getfield 102, 3) := by decide +kernel
theorem d_X_judge_40 : decode y_X_judge.2.1 40 = .ok (.iload 4, 2) := by decide +kernel
theorem d_X_judge_42 : decode y_X_judge.2.1 42 = .ok (.aaload, 1) := by decide +kernel
theorem d_X_judge_43 : decode y_X_judge.2.1 43 = .ok (.getfield 166, 3) := by decide +kernel
theorem d_X_judge_46 : decode y_X_judge.2.1 46 = .ok (.iastore, 1) := by decide +kernel
theorem d_X_judge_47 : decode y_X_judge.2.1 47 = .ok (.iinc 4 1, 3) := by decide +kernel
theorem d_X_judge_50 : decode y_X_judge.2.1 50 = .ok (.goto (-35), 3) := by decide +kernel
theorem d_X_judge_53 : decode y_X_judge.2.1 53 = .ok (.aload_n 0, 1) := by decide +kernel
theorem d_X_judge_54 : decode y_X_judge.2.1 54 = .ok (.getfield 115, 3) := by decide +kernel
theorem d_X_judge_57 : decode y_X_judge.2.1 57 = .ok (.lstore 4, 2) := by decide +kernel
theorem d_X_judge_59 : decode y_X_judge.2.1 59 = .ok (.bipush (-2), 2) := by decide +kernel
theorem d_X_judge_61 : decode y_X_judge.2.1 61 = .ok (.istore 6, 2) := by decide +kernel
theorem d_X_judge_63 : decode y_X_judge.2.1 63 = .ok (.iconst 0, 1) := by decide +kernel
theorem d_X_judge_64 : decode y_X_judge.2.1 64 = .ok (.istore 7, 2) := by decide +kernel
theorem d_X_judge_66 : decode y_X_judge.2.1 66 = .ok (.iload 7, 2) := by decide +kernel
theorem d_X_judge_68 : decode y_X_judge.2.1 68 = .ok (.iload_n 1, 1) := by decide +kernel
theorem d_X_judge_69 : decode y_X_judge.2.1 69 = .ok (.if_icmp .ge 112, 3) := by decide +kernel
theorem d_X_judge_72 : decode y_X_judge.2.1 72 = .ok (.iload 6, 2) := by decide +kernel
theorem d_X_judge_74 : decode y_X_judge.2.1 74 = .ok (.bipush (-2), 2) := by decide +kernel
theorem d_X_judge_76 : decode y_X_judge.2.1 76 = .ok (.if_icmp .ne 105, 3) := by decide +kernel
theorem d_X_judge_79 : decode y_X_judge.2.1 79 = .ok (.iload 7, 2) := by decide +kernel
theorem d_X_judge_81 : decode y_X_judge.2.1 81 = .ok (.iconst 4, 1) := by decide +kernel
theorem d_X_judge_82 : decode y_X_judge.2.1 82 = .ok (.if_icmp .ge 13, 3) := by decide +kernel
theorem d_X_judge_85 : decode y_X_judge.2.1 85 = .ok (.iload_n 2, 1) := by decide +kernel
theorem d_X_judge_86 : decode y_X_judge.2.1 86 = .ok (.bipush 8, 2) := by decide +kernel
theorem d_X_judge_88 : decode y_X_judge.2.1 88 = .ok (.iload 7, 2) := by decide +kernel
theorem d_X_judge_90 : decode y_X_judge.2.1 90 = .ok (.imul, 1) := by decide +kernel
theorem d_X_judge_91 : decode y_X_judge.2.1 91 = .ok (.iushr, 1) := by decide +kernel
theorem d_X_judge_92 : decode y_X_judge.2.1 92 = .ok (.goto 12, 3) := by decide +kernel
theorem d_X_judge_95 : decode y_X_judge.2.1 95 = .ok (.iload_n 3, 1) := by decide +kernel
theorem d_X_judge_96 : decode y_X_judge.2.1 96 = .ok (.bipush 8, 2) := by decide +kernel
theorem d_X_judge_98 : decode y_X_judge.2.1 98 = .ok (.iload 7, 2) := by decide +kernel
theorem d_X_judge_100 : decode y_X_judge.2.1 100 = .ok (.iconst 4, 1) := by decide +kernel
theorem d_X_judge_101 : decode y_X_judge.2.1 101 = .ok (.isub, 1) := by decide +kernel
theorem d_X_judge_102 : decode y_X_judge.2.1 102 = .ok (.imul, 1) := by decide +kernel
theorem d_X_judge_103 : decode y_X_judge.2.1 103 = .ok (.iushr, 1) := by decide +kernel
theorem d_X_judge_104 : decode y_X_judge.2.1 104 = .ok (.sipush 255, 3) := by decide +kernel
theorem d_X_judge_107 : decode y_X_judge.2.1 107 = .ok (.iand, 1) := by decide +kernel
theorem d_X_judge_108 : decode y_X_judge.2.1 108 = .ok (.istore 8, 2) := by decide +kernel
theorem d_X_judge_110 : decode y_X_judge.2.1 110 = .ok (.aload_n 0, 1) := by decide +kernel
theorem d_X_judge_111 : decode y_X_judge.2.1 111 = .ok (.getfield 19, 3) := by decide +kernel
theorem d_X_judge_114 : decode y_X_judge.2.1 114 = .ok (.lload 4, 2) := by decide +kernel
theorem d_X_judge_116 : decode y_X_judge.2.1 116 = .ok (.aload_n 0, 1) := by decide +kernel
theorem d_X_judge_117 : decode y_X_judge.2.1 117 = .ok (.aload_n 0, 1) := by decide +kernel
theorem d_X_judge_118 : decode y_X_judge.2.1 118 = .ok (.getfield 69, 3) := by decide +kernel
theorem d_X_judge_121 : decode y_X_judge.2.1 121 = .ok (.invokevirtual 225, 3) := by decide +kernel
theorem d_X_judge_124 : decode y_X_judge.2.1 124 = .ok (.iload 8, 2) := by decide +kernel
theorem d_X_judge_126 : decode y_X_judge.2.1 126 = .ok (.invokevirtual 195, 3) := by decide +kernel
theorem d_X_judge_129 : decode y_X_judge.2.1 129 = .ok (.ifCond .eq 10, 3) := by decide +kernel
theorem d_X_judge_132 : decode y_X_judge.2.1 132 = .ok (.iload 7, 2) := by decide +kernel
theorem d_X_judge_134 : decode y_X_judge.2.1 134 = .ok (.istore 6, 2) := by decide +kernel
theorem d_X_judge_136 : decode y_X_judge.2.1 136 = .ok (.goto 39, 3) := by decide +kernel
theorem d_X_judge_139 : decode y_X_judge.2.1 139 = .ok (.iload 8, 2) := by decide +kernel
theorem d_X_judge_141 : decode y_X_judge.2.1 141 = .ok (.bipush 20, 2) := by decide +kernel
theorem d_X_judge_143 : decode y_X_judge.2.1 143 = .ok (.idiv, 1) := by decide +kernel
theorem d_X_judge_144 : decode y_X_judge.2.1 144 = .ok (.iconst 3, 1) := by decide +kernel
theorem d_X_judge_145 : decode y_X_judge.2.1 145 = .ok (.if_icmp .ge 17, 3) := by decide +kernel
theorem d_X_judge_148 : decode y_X_judge.2.1 148 = .ok (.aload_n 0, 1) := by decide +kernel
theorem d_X_judge_149 : decode y_X_judge.2.1 149 = .ok (.getfield 69, 3) := by decide +kernel
theorem d_X_judge_152 : decode y_X_judge.2.1 152 = .ok (.iload 8, 2) := by decide +kernel
theorem d_X_judge_154 : decode y_X_judge.2.1 154 = .ok (.bipush 20, 2) := by decide +kernel
theorem d_X_judge_156 : decode y_X_judge.2.1 156 = .ok (.irem, 1) := by decide +kernel
theorem d_X_judge_157 : decode y_X_judge.2.1 157 = .ok (.dup2, 1) := by decide +kernel
theorem d_X_judge_158 : decode y_X_judge.2.1 158 = .ok (.iaload, 1) := by decide +kernel
theorem d_X_judge_159 : decode y_X_judge.2.1 159 = .ok (.iconst 1, 1) := by decide +kernel
theorem d_X_judge_160 : decode y_X_judge.2.1 160 = .ok (.iadd, 1) := by decide +kernel
theorem d_X_judge_161 : decode y_X_judge.2.1 161 = .ok (.iastore, 1) := by decide +kernel
theorem d_X_judge_162 : decode y_X_judge.2.1 162 = .ok (.aload_n 0, 1) := by decide +kernel
theorem d_X_judge_163 : decode y_X_judge.2.1 163 = .ok (.getfield 19, 3) := by decide +kernel
theorem d_X_judge_166 : decode y_X_judge.2.1 166 = .ok (.lload 4, 2) := by decide +kernel
theorem d_X_judge_168 : decode y_X_judge.2.1 168 = .ok (.iload 8, 2) := by decide +kernel
theorem d_X_judge_170 : decode y_X_judge.2.1 170 = .ok (.invokevirtual 206, 3) := by decide +kernel
theorem d_X_judge_173 : decode y_X_judge.2.1 173 = .ok (.lstore 4, 2) := by decide +kernel
theorem d_X_judge_175 : decode y_X_judge.2.1 175 = .ok (.iinc 7 1, 3) := by decide +kernel
theorem d_X_judge_178 : decode y_X_judge.2.1 178 = .ok (.goto (-112), 3) := by decide +kernel
theorem d_X_judge_181 : decode y_X_judge.2.1 181 = .ok (.aload_n 0, 1) := by decide +kernel
theorem d_X_judge_182 : decode y_X_judge.2.1 182 = .ok (.iconst 0, 1) := by decide +kernel
theorem d_X_judge_183 : decode y_X_judge.2.1 183 = .ok (.putfield 209, 3) := by decide +kernel
theorem d_X_judge_186 : decode y_X_judge.2.1 186 = .ok (.iconst 0, 1) := by decide +kernel
theorem d_X_judge_187 : decode y_X_judge.2.1 187 = .ok (.istore 7, 2) := by decide +kernel
theorem d_X_judge_189 : decode y_X_judge.2.1 189 = .ok (.iload 7, 2) := by decide +kernel
theorem d_X_judge_191 : decode y_X_judge.2.1 191 = .ok (.iconst 3, 1) := by decide +kernel
theorem d_X_judge_192 : decode y_X_judge.2.1 192 = .ok (.if_icmp .ge 20, 3) := by decide +kernel
theorem d_X_judge_195 : decode y_X_judge.2.1 195 = .ok (.aload_n 0, 1) := by decide +kernel
theorem d_X_judge_196 : decode y_X_judge.2.1 196 = .ok (.lload 4, 2) := by decide +kernel
theorem d_X_judge_198 : decode y_X_judge.2.1 198 = .ok (.iload 7, 2) := by decide +kernel
theorem d_X_judge_200 : decode y_X_judge.2.1 200 = .ok (.invokestatic 178, 3) := by decide +kernel
theorem d_X_judge_203 : decode y_X_judge.2.1 203 = .ok (.invokevirtual 215, 3) := by decide +kernel
theorem d_X_judge_206 : decode y_X_judge.2.1 206 = .ok (.iinc 7 1, 3) := by decide +kernel
theorem d_X_judge_209 : decode y_X_judge.2.1 209 = .ok (.goto (-20), 3) := by decide +kernel
theorem d_X_judge_212 : decode y_X_judge.2.1 212 = .ok (.iload 6, 2) := by decide +kernel
theorem d_X_judge_214 : decode y_X_judge.2.1 214 = .ok (.ireturn, 1) := by decide +kernel
theorem d_X_spentBy_0 : decode y_X_spentBy.2.1 0 = .ok (.iconst 0, 1) := by decide +kernel
theorem d_X_spentBy_1 : decode y_X_spentBy.2.1 1 = .ok (.istore_n 2, 1) := by decide +kernel
theorem d_X_spentBy_2 : decode y_X_spentBy.2.1 2 = .ok (.iconst 0, 1) := by decide +kernel
theorem d_X_spentBy_3 : decode y_X_spentBy.2.1 3 = .ok (.istore_n 3, 1) := by decide +kernel
theorem d_X_spentBy_4 : decode y_X_spentBy.2.1 4 = .ok (.iload_n 3, 1) := by decide +kernel
theorem d_X_spentBy_5 : decode y_X_spentBy.2.1 5 = .ok (.aload_n 0, 1) := by decide +kernel
theorem d_X_spentBy_6 : decode y_X_spentBy.2.1 6 = .ok (.getfield 19, 3) := by decide +kernel
theorem d_X_spentBy_9 : decode y_X_spentBy.2.1 9 = .ok (.getfield 88, 3) := by decide +kernel
theorem d_X_spentBy_12 : decode y_X_spentBy.2.1 12 = .ok (.if_icmp .ge 33, 3) := by decide +kernel
theorem d_X_spentBy_15 : decode y_X_spentBy.2.1 15 = .ok (.aload_n 1, 1) := by decide +kernel
theorem d_X_spentBy_16 : decode y_X_spentBy.2.1 16 = .ok (.iload_n 3, 1) := by decide +kernel
theorem d_X_spentBy_17 : decode y_X_spentBy.2.1 17 = .ok (.iaload, 1) := by decide +kernel
theorem d_X_spentBy_18 : decode y_X_spentBy.2.1 18 = .ok (.aload_n 0, 1) := by decide +kernel
theorem d_X_spentBy_19 : decode y_X_spentBy.2.1 19 = .ok (.getfield 19, 3) := by decide +kernel
theorem d_X_spentBy_22 : decode y_X_spentBy.2.1 22 = .ok (.getfield 102, 3) := by decide +kernel
theorem d_X_spentBy_25 : decode y_X_spentBy.2.1 25 = .ok (.iload_n 3, 1) := by decide +kernel
theorem d_X_spentBy_26 : decode y_X_spentBy.2.1 26 = .ok (.aaload, 1) := by decide +kernel
theorem d_X_spentBy_27 : decode y_X_spentBy.2.1 27 = .ok (.getfield 138, 3) := by decide +kernel
theorem d_X_spentBy_30 : decode y_X_spentBy.2.1 30 = .ok (.if_icmp .lt 9, 3) := by decide +kernel
theorem d_X_spentBy_33 : decode y_X_spentBy.2.1 33 = .ok (.iload_n 2, 1) := by decide +kernel
theorem d_X_spentBy_34 : decode y_X_spentBy.2.1 34 = .ok (.iconst 1, 1) := by decide +kernel
theorem d_X_spentBy_35 : decode y_X_spentBy.2.1 35 = .ok (.iload_n 3, 1) := by decide +kernel
theorem d_X_spentBy_36 : decode y_X_spentBy.2.1 36 = .ok (.ishl, 1) := by decide +kernel
theorem d_X_spentBy_37 : decode y_X_spentBy.2.1 37 = .ok (.ior, 1) := by decide +kernel
theorem d_X_spentBy_38 : decode y_X_spentBy.2.1 38 = .ok (.istore_n 2, 1) := by decide +kernel
theorem d_X_spentBy_39 : decode y_X_spentBy.2.1 39 = .ok (.iinc 3 1, 3) := by decide +kernel
theorem d_X_spentBy_42 : decode y_X_spentBy.2.1 42 = .ok (.goto (-38), 3) := by decide +kernel
theorem d_X_spentBy_45 : decode y_X_spentBy.2.1 45 = .ok (.iload_n 2, 1) := by decide +kernel
theorem d_X_spentBy_46 : decode y_X_spentBy.2.1 46 = .ok (.ireturn, 1) := by decide +kernel
theorem d_X_reader_0 : decode y_X_reader.2.1 0 = .ok (.iload_n 1, 1) := by decide +kernel
theorem d_X_reader_1 : decode y_X_reader.2.1 1 = .ok (.invokestatic 141, 3) := by decide +kernel
theorem d_X_reader_4 : decode y_X_reader.2.1 4 = .ok (.ifCond .eq 23, 3) := by decide +kernel
theorem d_X_reader_7 : decode y_X_reader.2.1 7 = .ok (.aload_n 0, 1) := by decide +kernel
theorem d_X_reader_8 : decode y_X_reader.2.1 8 = .ok (.getfield 19, 3) := by decide +kernel
theorem d_X_reader_11 : decode y_X_reader.2.1 11 = .ok (.iload_n 2, 1) := by decide +kernel
theorem d_X_reader_12 : decode y_X_reader.2.1 12 = .ok (.invokevirtual 218, 3) := by decide +kernel
theorem d_X_reader_15 : decode y_X_reader.2.1 15 = .ok (.ifCond .ne 12, 3) := by decide +kernel
theorem d_X_reader_18 : decode y_X_reader.2.1 18 = .ok (.aload_n 0, 1) := by decide +kernel
theorem d_X_reader_19 : decode y_X_reader.2.1 19 = .ok (.getfield 229, 3) := by decide +kernel
theorem d_X_reader_22 : decode y_X_reader.2.1 22 = .ok (.bipush 6, 2) := by decide +kernel
theorem d_X_reader_24 : decode y_X_reader.2.1 24 = .ok (.if_icmp .lt 5, 3) := by decide +kernel
theorem d_X_reader_27 : decode y_X_reader.2.1 27 = .ok (.iconst (-1), 1) := by decide +kernel
theorem d_X_reader_28 : decode y_X_reader.2.1 28 = .ok (.ireturn, 1) := by decide +kernel
theorem d_X_reader_29 : decode y_X_reader.2.1 29 = .ok (.aload_n 0, 1) := by decide +kernel
theorem d_X_reader_30 : decode y_X_reader.2.1 30 = .ok (.getfield 46, 3) := by decide +kernel
theorem d_X_reader_33 : decode y_X_reader.2.1 33 = .ok (.aload_n 0, 1) := by decide +kernel
theorem d_X_reader_34 : decode y_X_reader.2.1 34 = .ok (.getfield 229, 3) := by decide +kernel
theorem d_X_reader_37 : decode y_X_reader.2.1 37 = .ok (.aaload, 1) := by decide +kernel
theorem d_X_reader_38 : decode y_X_reader.2.1 38 = .ok (.iload_n 1, 1) := by decide +kernel
theorem d_X_reader_39 : decode y_X_reader.2.1 39 = .ok (.iload_n 2, 1) := by decide +kernel
theorem d_X_reader_40 : decode y_X_reader.2.1 40 = .ok (.invokevirtual 232, 3) := by decide +kernel
theorem d_X_reader_43 : decode y_X_reader.2.1 43 = .ok (.aload_n 0, 1) := by decide +kernel
theorem d_X_reader_44 : decode y_X_reader.2.1 44 = .ok (.dup, 1) := by decide +kernel
theorem d_X_reader_45 : decode y_X_reader.2.1 45 = .ok (.getfield 229, 3) := by decide +kernel
theorem d_X_reader_48 : decode y_X_reader.2.1 48 = .ok (.iconst 1, 1) := by decide +kernel
theorem d_X_reader_49 : decode y_X_reader.2.1 49 = .ok (.iadd, 1) := by decide +kernel
theorem d_X_reader_50 : decode y_X_reader.2.1 50 = .ok (.putfield 229, 3) := by decide +kernel
theorem d_X_reader_53 : decode y_X_reader.2.1 53 = .ok (.aload_n 0, 1) := by decide +kernel
theorem d_X_reader_54 : decode y_X_reader.2.1 54 = .ok (.getfield 229, 3) := by decide +kernel
theorem d_X_reader_57 : decode y_X_reader.2.1 57 = .ok (.iconst 1, 1) := by decide +kernel
theorem d_X_reader_58 : decode y_X_reader.2.1 58 = .ok (.isub, 1) := by decide +kernel
theorem d_X_reader_59 : decode y_X_reader.2.1 59 = .ok (.ireturn, 1) := by decide +kernel
theorem d_X_sit_0 : decode y_X_sit.2.1 0 = .ok (.aload_n 0, 1) := by decide +kernel
theorem d_X_sit_1 : decode y_X_sit.2.1 1 = .ok (.iload_n 1, 1) := by decide +kernel
theorem d_X_sit_2 : decode y_X_sit.2.1 2 = .ok (.invokevirtual 236, 3) := by decide +kernel
theorem d_X_sit_5 : decode y_X_sit.2.1 5 = .ok (.ifCond .eq 10, 3) := by decide +kernel
theorem d_X_sit_8 : decode y_X_sit.2.1 8 = .ok (.iload_n 2, 1) := by decide +kernel
theorem d_X_sit_9 : decode y_X_sit.2.1 9 = .ok (.invokestatic 141, 3) := by decide +kernel
theorem d_X_sit_12 : decode y_X_sit.2.1 12 = .ok (.ifCond .ne 5, 3) := by decide +kernel
theorem d_X_sit_15 : decode y_X_sit.2.1 15 = .ok (.iconst (-1), 1) := by decide +kernel
theorem d_X_sit_16 : decode y_X_sit.2.1 16 = .ok (.ireturn, 1) := by decide +kernel
theorem d_X_sit_17 : decode y_X_sit.2.1 17 = .ok (.aload_n 0, 1) := by decide +kernel
theorem d_X_sit_18 : decode y_X_sit.2.1 18 = .ok (.getfield 46, 3) := by decide +kernel
theorem d_X_sit_21 : decode y_X_sit.2.1 21 = .ok (.iload_n 1, 1) := by decide +kernel
theorem d_X_sit_22 : decode y_X_sit.2.1 22 = .ok (.aaload, 1) := by decide +kernel
theorem d_X_sit_23 : decode y_X_sit.2.1 23 = .ok (.getfield 239, 3) := by decide +kernel
theorem d_X_sit_26 : decode y_X_sit.2.1 26 = .ok (.istore_n 3, 1) := by decide +kernel
theorem d_X_sit_27 : decode y_X_sit.2.1 27 = .ok (.aload_n 0, 1) := by decide +kernel
theorem d_X_sit_28 : decode y_X_sit.2.1 28 = .ok (.getfield 46, 3) := by decide +kernel
theorem d_X_sit_31 : decode y_X_sit.2.1 31 = .ok (.iload_n 1, 1) := by decide +kernel
theorem d_X_sit_32 : decode y_X_sit.2.1 32 = .ok (.aaload, 1) := by decide +kernel
theorem d_X_sit_33 : decode y_X_sit.2.1 33 = .ok (.iload_n 2, 1) := by decide +kernel
theorem d_X_sit_34 : decode y_X_sit.2.1 34 = .ok (.putfield 239, 3) := by decide +kernel
theorem d_X_sit_37 : decode y_X_sit.2.1 37 = .ok (.iload_n 3, 1) := by decide +kernel
theorem d_X_sit_38 : decode y_X_sit.2.1 38 = .ok (.ireturn, 1) := by decide +kernel
theorem d_X_read_0 : decode y_X_read.2.1 0 = .ok (.aload_n 0, 1) := by decide +kernel
theorem d_X_read_1 : decode y_X_read.2.1 1 = .ok (.iload_n 1, 1) := by decide +kernel
theorem d_X_read_2 : decode y_X_read.2.1 2 = .ok (.invokevirtual 236, 3) := by decide +kernel
theorem d_X_read_5 : decode y_X_read.2.1 5 = .ok (.ifCond .eq 14, 3) := by decide +kernel
theorem d_X_read_8 : decode y_X_read.2.1 8 = .ok (.aload_n 0, 1) := by decide +kernel
theorem d_X_read_9 : decode y_X_read.2.1 9 = .ok (.getfield 19, 3) := by decide +kernel
theorem d_X_read_12 : decode y_X_read.2.1 12 = .ok (.iload_n 2, 1) := by decide +kernel
theorem d_X_read_13 : decode y_X_read.2.1 13 = .ok (.invokevirtual 92, 3) := by decide +kernel
theorem d_X_read_16 : decode y_X_read.2.1 16 = .ok (.ifCond .ne 5, 3) := by decide +kernel
theorem d_X_read_19 : decode y_X_read.2.1 19 = .ok (.iconst (-1), 1) := by decide +kernel
theorem d_X_read_20 : decode y_X_read.2.1 20 = .ok (.ireturn, 1) := by decide +kernel
theorem d_X_read_21 : decode y_X_read.2.1 21 = .ok (.aload_n 0, 1) := by decide +kernel
theorem d_X_read_22 : decode y_X_read.2.1 22 = .ok (.getfield 115, 3) := by decide +kernel
theorem d_X_read_25 : decode y_X_read.2.1 25 = .ok (.aload_n 0, 1) := by decide +kernel
theorem d_X_read_26 : decode y_X_read.2.1 26 = .ok (.getfield 46, 3) := by decide +kernel
theorem d_X_read_29 : decode y_X_read.2.1 29 = .ok (.iload_n 1, 1) := by decide +kernel
theorem d_X_read_30 : decode y_X_read.2.1 30 = .ok (.aaload, 1) := by decide +kernel
theorem d_X_read_31 : decode y_X_read.2.1 31 = .ok (.getfield 239, 3) := by decide +kernel
theorem d_X_read_34 : decode y_X_read.2.1 34 = .ok (.invokestatic 178, 3) := by decide +kernel
theorem d_X_read_37 : decode y_X_read.2.1 37 = .ok (.iload_n 2, 1) := by decide +kernel
theorem d_X_read_38 : decode y_X_read.2.1 38 = .ok (.ishr, 1) := by decide +kernel
theorem d_X_read_39 : decode y_X_read.2.1 39 = .ok (.iconst 1, 1) := by decide +kernel
theorem d_X_read_40 : decode y_X_read.2.1 40 = .ok (.iand, 1) := by decide +kernel
theorem d_X_read_41 : decode y_X_read.2.1 41 = .ok (.ifCond .ne 6, 3) := by decide +kernel
theorem d_X_read_44 : decode y_X_read.2.1 44 = .ok (.bipush (-2), 2) := by decide +kernel
theorem d_X_read_46 : decode y_X_read.2.1 46 = .ok (.ireturn, 1) := by decide +kernel
theorem d_X_read_47 : decode y_X_read.2.1 47 = .ok (.aload_n 0, 1) := by decide +kernel
theorem d_X_read_48 : decode y_X_read.2.1 48 = .ok (.aload_n 0, 1) := by decide +kernel
theorem d_X_read_49 : decode y_X_read.2.1 49 = .ok (.getfield 46, 3) := by decide +kernel
theorem d_X_read_52 : decode y_X_read.2.1 52 = .ok (.iload_n 1, 1) := by decide +kernel
theorem d_X_read_53 : decode y_X_read.2.1 53 = .ok (.aaload, 1) := by decide +kernel
theorem d_X_read_54 : decode y_X_read.2.1 54 = .ok (.iload_n 2, 1) := by decide +kernel
theorem d_X_read_55 : decode y_X_read.2.1 55 = .ok (.invokevirtual 242, 3) := by decide +kernel
theorem d_X_read_58 : decode y_X_read.2.1 58 = .ok (.aload_n 0, 1) := by decide +kernel
theorem d_X_read_59 : decode y_X_read.2.1 59 = .ok (.getfield 19, 3) := by decide +kernel
theorem d_X_read_62 : decode y_X_read.2.1 62 = .ok (.getfield 102, 3) := by decide +kernel
theorem d_X_read_65 : decode y_X_read.2.1 65 = .ok (.iload_n 2, 1) := by decide +kernel
theorem d_X_read_66 : decode y_X_read.2.1 66 = .ok (.aaload, 1) := by decide +kernel
theorem d_X_read_67 : decode y_X_read.2.1 67 = .ok (.getfield 169, 3) := by decide +kernel
theorem d_X_read_70 : decode y_X_read.2.1 70 = .ok (.ireturn, 1) := by decide +kernel
theorem d_X_finishBook_0 : decode y_X_finishBook.2.1 0 = .ok (.aload_n 1, 1) := by decide +kernel
theorem d_X_finishBook_1 : decode y_X_finishBook.2.1 1 = .ok (.getfield 246, 3) := by decide +kernel
theorem d_X_finishBook_4 : decode y_X_finishBook.2.1 4 = .ok (.iload_n 2, 1) := by decide +kernel
theorem d_X_finishBook_5 : decode y_X_finishBook.2.1 5 = .ok (.ishr, 1) := by decide +kernel
theorem d_X_finishBook_6 : decode y_X_finishBook.2.1 6 = .ok (.iconst 1, 1) := by decide +kernel
theorem d_X_finishBook_7 : decode y_X_finishBook.2.1 7 = .ok (.iand, 1) := by decide +kernel
theorem d_X_finishBook_8 : decode y_X_finishBook.2.1 8 = .ok (.ifCond .ne 40, 3) := by decide +kernel
theorem d_X_finishBook_11 : decode y_X_finishBook.2.1 11 = .ok (.aload_n 1, 1) := by decide +kernel
theorem d_X_finishBook_12 : decode y_X_finishBook.2.1 12 = .ok (.dup, 1) := by decide +kernel
theorem d_X_finishBook_13 : decode y_X_finishBook.2.1 13 = .ok (.getfield 246, 3) := by decide +kernel
theorem d_X_finishBook_16 : decode y_X_finishBook.2.1 16 = .ok (.iconst 1, 1) := by decide +kernel
theorem d_X_finishBook_17 : decode y_X_finishBook.2.1 17 = .ok (.iload_n 2, 1) := by decide +kernel
theorem d_X_finishBook_18 : decode y_X_finishBook.2.1 18 = .ok (.ishl, 1) := by decide +kernel
theorem d_X_finishBook_19 : decode y_X_finishBook.2.1 19 = .ok (.ior, 1) := by decide +kernel
theorem d_X_finishBook_20 : decode y_X_finishBook.2.1 20 = .ok (.putfield 246, 3) := by decide +kernel
theorem d_X_finishBook_23 : decode y_X_finishBook.2.1 23 = .ok (.aload_n 0, 1) := by decide +kernel
theorem d_X_finishBook_24 : decode y_X_finishBook.2.1 24 = .ok (.getfield 19, 3) := by decide +kernel
theorem d_X_finishBook_27 : decode y_X_finishBook.2.1 27 = .ok (.getfield 102, 3) := by decide +kernel
theorem d_X_finishBook_30 : decode y_X_finishBook.2.1 30 = .ok (.iload_n 2, 1) := by decide +kernel
theorem d_X_finishBook_31 : decode y_X_finishBook.2.1 31 = .ok (.aaload, 1) := by decide +kernel
theorem d_X_finishBook_32 : decode y_X_finishBook.2.1 32 = .ok (.dup, 1) := by decide +kernel
theorem d_X_finishBook_33 : decode y_X_finishBook.2.1 33 = .ok (.getfield 169, 3) := by decide +kernel
theorem d_X_finishBook_36 : decode y_X_finishBook.2.1 36 = .ok (.iconst 1, 1) := by decide +kernel
theorem d_X_finishBook_37 : decode y_X_finishBook.2.1 37 = .ok (.iadd, 1) := by decide +kernel
theorem d_X_finishBook_38 : decode y_X_finishBook.2.1 38 = .ok (.putfield 169, 3) := by decide +kernel
theorem d_X_finishBook_41 : decode y_X_finishBook.2.1 41 = .ok (.aload_n 0, 1) := by decide +kernel
theorem d_X_finishBook_42 : decode y_X_finishBook.2.1 42 = .ok (.getfield 19, 3) := by decide +kernel
theorem d_X_finishBook_45 : decode y_X_finishBook.2.1 45 = .ok (.invokevirtual 112, 3) := by decide +kernel
theorem d_X_finishBook_48 : decode y_X_finishBook.2.1 48 = .ok (.aload_n 0, 1) := by decide +kernel
theorem d_X_finishBook_49 : decode y_X_finishBook.2.1 49 = .ok (.aload_n 0, 1) := by decide +kernel
theorem d_X_finishBook_50 : decode y_X_finishBook.2.1 50 = .ok (.getfield 19, 3) := by decide +kernel
theorem d_X_finishBook_53 : decode y_X_finishBook.2.1 53 = .ok (.aload_n 0, 1) := by decide +kernel
theorem d_X_finishBook_54 : decode y_X_finishBook.2.1 54 = .ok (.getfield 115, 3) := by decide +kernel
theorem d_X_finishBook_57 : decode y_X_finishBook.2.1 57 = .ok (.aload_n 1, 1) := by decide +kernel
theorem d_X_finishBook_58 : decode y_X_finishBook.2.1 58 = .ok (.getfield 239, 3) := by decide +kernel
theorem d_X_finishBook_61 : decode y_X_finishBook.2.1 61 = .ok (.invokevirtual 123, 3) := by decide +kernel
theorem d_X_finishBook_64 : decode y_X_finishBook.2.1 64 = .ok (.putfield 115, 3) := by decide +kernel
theorem d_X_finishBook_67 : decode y_X_finishBook.2.1 67 = .ok (.return_, 1) := by decide +kernel
theorem d_X_of_0 : decode y_X_of.2.1 0 = .ok (.aload_n 0, 1) := by decide +kernel
theorem d_X_of_1 : decode y_X_of.2.1 1 = .ok (.iload_n 1, 1) := by decide +kernel
theorem d_X_of_2 : decode y_X_of.2.1 2 = .ok (.invokevirtual 236, 3) := by decide +kernel
theorem d_X_of_5 : decode y_X_of.2.1 5 = .ok (.ifCond .ne 13, 3) := by decide +kernel
theorem d_X_of_8 : decode y_X_of.2.1 8 = .ok (.new 159, 3) := by decide +kernel
theorem d_X_of_11 : decode y_X_of.2.1 11 = .ok (.dup, 1) := by decide +kernel
theorem d_X_of_12 : decode y_X_of.2.1 12 = .ok (.ldc 249, 2) := by decide +kernel
theorem d_X_of_14 : decode y_X_of.2.1 14 = .ok (.invokespecial 163, 3) := by decide +kernel
theorem d_X_of_17 : decode y_X_of.2.1 17 = .ok (.athrow, 1) := by decide +kernel
theorem d_X_of_18 : decode y_X_of.2.1 18 = .ok (.aload_n 0, 1) := by decide +kernel
theorem d_X_of_19 : decode y_X_of.2.1 19 = .ok (.getfield 46, 3) := by decide +kernel
theorem d_X_of_22 : decode y_X_of.2.1 22 = .ok (.iload_n 1, 1) := by decide +kernel
theorem d_X_of_23 : decode y_X_of.2.1 23 = .ok (.aaload, 1) := by decide +kernel
theorem d_X_of_24 : decode y_X_of.2.1 24 = .ok (.astore_n 3, 1) := by decide +kernel
theorem d_X_of_25 : decode y_X_of.2.1 25 = .ok (.iload_n 2, 1) := by decide +kernel
theorem d_X_of_26 : decode y_X_of.2.1 26 = .ok (.tableswitch 50 0 3 #[30, 35, 40, 45], 30) := by decide +kernel
theorem d_X_of_56 : decode y_X_of.2.1 56 = .ok (.aload_n 3, 1) := by decide +kernel
theorem d_X_of_57 : decode y_X_of.2.1 57 = .ok (.getfield 239, 3) := by decide +kernel
theorem d_X_of_60 : decode y_X_of.2.1 60 = .ok (.ireturn, 1) := by decide +kernel
theorem d_X_of_61 : decode y_X_of.2.1 61 = .ok (.aload_n 3, 1) := by decide +kernel
theorem d_X_of_62 : decode y_X_of.2.1 62 = .ok (.getfield 251, 3) := by decide +kernel
theorem d_X_of_65 : decode y_X_of.2.1 65 = .ok (.ireturn, 1) := by decide +kernel
theorem d_X_of_66 : decode y_X_of.2.1 66 = .ok (.aload_n 3, 1) := by decide +kernel
theorem d_X_of_67 : decode y_X_of.2.1 67 = .ok (.getfield 246, 3) := by decide +kernel
theorem d_X_of_70 : decode y_X_of.2.1 70 = .ok (.ireturn, 1) := by decide +kernel
theorem d_X_of_71 : decode y_X_of.2.1 71 = .ok (.aload_n 3, 1) := by decide +kernel
theorem d_X_of_72 : decode y_X_of.2.1 72 = .ok (.invokevirtual 254, 3) := by decide +kernel
theorem d_X_of_75 : decode y_X_of.2.1 75 = .ok (.ireturn, 1) := by decide +kernel
theorem d_X_of_76 : decode y_X_of.2.1 76 = .ok (.new 159, 3) := by decide +kernel
theorem d_X_of_79 : decode y_X_of.2.1 79 = .ok (.dup, 1) := by decide +kernel
theorem d_X_of_80 : decode y_X_of.2.1 80 = .ok (.ldc_w 257, 3) := by decide +kernel
theorem d_X_of_83 : decode y_X_of.2.1 83 = .ok (.invokespecial 163, 3) := by decide +kernel
theorem d_X_of_86 : decode y_X_of.2.1 86 = .ok (.athrow, 1) := by decide +kernel
theorem d_X_hours_0 : decode y_X_hours.2.1 0 = .ok (.iload_n 1, 1) := by decide +kernel
theorem d_X_hours_1 : decode y_X_hours.2.1 1 = .ok (.ifCond .lt 9, 3) := by decide +kernel
theorem d_X_hours_4 : decode y_X_hours.2.1 4 = .ok (.iload_n 1, 1) := by decide +kernel
theorem d_X_hours_5 : decode y_X_hours.2.1 5 = .ok (.bipush 50, 2) := by decide +kernel
theorem d_X_hours_7 : decode y_X_hours.2.1 7 = .ok (.if_icmp .le 5, 3) := by decide +kernel
theorem d_X_hours_10 : decode y_X_hours.2.1 10 = .ok (.iconst (-1), 1) := by decide +kernel
theorem d_X_hours_11 : decode y_X_hours.2.1 11 = .ok (.ireturn, 1) := by decide +kernel
theorem d_X_hours_12 : decode y_X_hours.2.1 12 = .ok (.iconst 0, 1) := by decide +kernel
theorem d_X_hours_13 : decode y_X_hours.2.1 13 = .ok (.istore_n 2, 1) := by decide +kernel
theorem d_X_hours_14 : decode y_X_hours.2.1 14 = .ok (.iconst 0, 1) := by decide +kernel
theorem d_X_hours_15 : decode y_X_hours.2.1 15 = .ok (.istore_n 3, 1) := by decide +kernel
theorem d_X_hours_16 : decode y_X_hours.2.1 16 = .ok (.iload_n 2, 1) := by decide +kernel
theorem d_X_hours_17 : decode y_X_hours.2.1 17 = .ok (.iload_n 1, 1) := by decide +kernel
theorem d_X_hours_18 : decode y_X_hours.2.1 18 = .ok (.if_icmp .ge 63, 3) := by decide +kernel
theorem d_X_hours_21 : decode y_X_hours.2.1 21 = .ok (.iload_n 3, 1) := by decide +kernel
theorem d_X_hours_22 : decode y_X_hours.2.1 22 = .ok (.ifCond .ne 59, 3) := by decide +kernel
theorem d_X_hours_25 : decode y_X_hours.2.1 25 = .ok (.aload_n 0, 1) := by decide +kernel
theorem d_X_hours_26 : decode y_X_hours.2.1 26 = .ok (.invokevirtual 259, 3) := by decide +kernel
theorem d_X_hours_29 : decode y_X_hours.2.1 29 = .ok (.iconst 1, 1) := by decide +kernel
theorem d_X_hours_30 : decode y_X_hours.2.1 30 = .ok (.istore_n 3, 1) := by decide +kernel
theorem d_X_hours_31 : decode y_X_hours.2.1 31 = .ok (.iconst 0, 1) := by decide +kernel
theorem d_X_hours_32 : decode y_X_hours.2.1 32 = .ok (.istore 4, 2) := by decide +kernel
theorem d_X_hours_34 : decode y_X_hours.2.1 34 = .ok (.iload 4, 2) := by decide +kernel
theorem d_X_hours_36 : decode y_X_hours.2.1 36 = .ok (.aload_n 0, 1) := by decide +kernel
theorem d_X_hours_37 : decode y_X_hours.2.1 37 = .ok (.getfield 229, 3) := by decide +kernel
theorem d_X_hours_40 : decode y_X_hours.2.1 40 = .ok (.if_icmp .ge 25, 3) := by decide +kernel
theorem d_X_hours_43 : decode y_X_hours.2.1 43 = .ok (.aload_n 0, 1) := by decide +kernel
theorem d_X_hours_44 : decode y_X_hours.2.1 44 = .ok (.aload_n 0, 1) := by decide +kernel
theorem d_X_hours_45 : decode y_X_hours.2.1 45 = .ok (.getfield 63, 3) := by decide +kernel
theorem d_X_hours_48 : decode y_X_hours.2.1 48 = .ok (.iload 4, 2) := by decide +kernel
theorem d_X_hours_50 : decode y_X_hours.2.1 50 = .ok (.iaload, 1) := by decide +kernel
theorem d_X_hours_51 : decode y_X_hours.2.1 51 = .ok (.invokevirtual 262, 3) := by decide +kernel
theorem d_X_hours_54 : decode y_X_hours.2.1 54 = .ok (.ifCond .eq 5, 3) := by decide +kernel
theorem d_X_hours_57 : decode y_X_hours.2.1 57 = .ok (.iconst 0, 1) := by decide +kernel
theorem d_X_hours_58 : decode y_X_hours.2.1 58 = .ok (.istore_n 3, 1) := by decide +kernel
theorem d_X_hours_59 : decode y_X_hours.2.1 59 = .ok (.iinc 4 1, 3) := by decide +kernel
theorem d_X_hours_62 : decode y_X_hours.2.1 62 = .ok (.goto (-28), 3) := by decide +kernel
theorem d_X_hours_65 : decode y_X_hours.2.1 65 = .ok (.iinc 2 1, 3) := by decide +kernel
theorem d_X_hours_68 : decode y_X_hours.2.1 68 = .ok (.aload_n 0, 1) := by decide +kernel
theorem d_X_hours_69 : decode y_X_hours.2.1 69 = .ok (.dup, 1) := by decide +kernel
theorem d_X_hours_70 : decode y_X_hours.2.1 70 = .ok (.getfield 265, 3) := by decide +kernel
theorem d_X_hours_73 : decode y_X_hours.2.1 73 = .ok (.iconst 1, 1) := by decide +kernel
theorem d_X_hours_74 : decode y_X_hours.2.1 74 = .ok (.iadd, 1) := by decide +kernel
theorem d_X_hours_75 : decode y_X_hours.2.1 75 = .ok (.putfield 265, 3) := by decide +kernel
theorem d_X_hours_78 : decode y_X_hours.2.1 78 = .ok (.goto (-62), 3) := by decide +kernel
theorem d_X_hours_81 : decode y_X_hours.2.1 81 = .ok (.aload_n 0, 1) := by decide +kernel
theorem d_X_hours_82 : decode y_X_hours.2.1 82 = .ok (.iconst 0, 1) := by decide +kernel
theorem d_X_hours_83 : decode y_X_hours.2.1 83 = .ok (.putfield 209, 3) := by decide +kernel
theorem d_X_hours_86 : decode y_X_hours.2.1 86 = .ok (.aload_n 0, 1) := by decide +kernel
theorem d_X_hours_87 : decode y_X_hours.2.1 87 = .ok (.iload_n 3, 1) := by decide +kernel
theorem d_X_hours_88 : decode y_X_hours.2.1 88 = .ok (.ifCond .eq 7, 3) := by decide +kernel
theorem d_X_hours_91 : decode y_X_hours.2.1 91 = .ok (.iconst 1, 1) := by decide +kernel
theorem d_X_hours_92 : decode y_X_hours.2.1 92 = .ok (.goto 4, 3) := by decide +kernel
theorem d_X_hours_95 : decode y_X_hours.2.1 95 = .ok (.iconst 0, 1) := by decide +kernel
theorem d_X_hours_96 : decode y_X_hours.2.1 96 = .ok (.invokevirtual 215, 3) := by decide +kernel
theorem d_X_hours_99 : decode y_X_hours.2.1 99 = .ok (.aload_n 0, 1) := by decide +kernel
theorem d_X_hours_100 : decode y_X_hours.2.1 100 = .ok (.aload_n 0, 1) := by decide +kernel
theorem d_X_hours_101 : decode y_X_hours.2.1 101 = .ok (.invokevirtual 268, 3) := by decide +kernel
theorem d_X_hours_104 : decode y_X_hours.2.1 104 = .ok (.invokevirtual 215, 3) := by decide +kernel
theorem d_X_hours_107 : decode y_X_hours.2.1 107 = .ok (.iload_n 2, 1) := by decide +kernel
theorem d_X_hours_108 : decode y_X_hours.2.1 108 = .ok (.ireturn, 1) := by decide +kernel
theorem d_X_satisfied_0 : decode y_X_satisfied.2.1 0 = .ok (.iconst 0, 1) := by decide +kernel
theorem d_X_satisfied_1 : decode y_X_satisfied.2.1 1 = .ok (.istore_n 1, 1) := by decide +kernel
theorem d_X_satisfied_2 : decode y_X_satisfied.2.1 2 = .ok (.iconst 0, 1) := by decide +kernel
theorem d_X_satisfied_3 : decode y_X_satisfied.2.1 3 = .ok (.istore_n 2, 1) := by decide +kernel
theorem d_X_satisfied_4 : decode y_X_satisfied.2.1 4 = .ok (.iload_n 2, 1) := by decide +kernel
theorem d_X_satisfied_5 : decode y_X_satisfied.2.1 5 = .ok (.aload_n 0, 1) := by decide +kernel
theorem d_X_satisfied_6 : decode y_X_satisfied.2.1 6 = .ok (.getfield 229, 3) := by decide +kernel
theorem d_X_satisfied_9 : decode y_X_satisfied.2.1 9 = .ok (.if_icmp .ge 27, 3) := by decide +kernel
theorem d_X_satisfied_12 : decode y_X_satisfied.2.1 12 = .ok (.aload_n 0, 1) := by decide +kernel
theorem d_X_satisfied_13 : decode y_X_satisfied.2.1 13 = .ok (.getfield 46, 3) := by decide +kernel
theorem d_X_satisfied_16 : decode y_X_satisfied.2.1 16 = .ok (.iload_n 2, 1) := by decide +kernel
theorem d_X_satisfied_17 : decode y_X_satisfied.2.1 17 = .ok (.aaload, 1) := by decide +kernel
theorem d_X_satisfied_18 : decode y_X_satisfied.2.1 18 = .ok (.invokevirtual 254, 3) := by decide +kernel
theorem d_X_satisfied_21 : decode y_X_satisfied.2.1 21 = .ok (.ifCond .ne 9, 3) := by decide +kernel
theorem d_X_satisfied_24 : decode y_X_satisfied.2.1 24 = .ok (.iload_n 1, 1) := by decide +kernel
theorem d_X_satisfied_25 : decode y_X_satisfied.2.1 25 = .ok (.iconst 1, 1) := by decide +kernel
theorem d_X_satisfied_26 : decode y_X_satisfied.2.1 26 = .ok (.iload_n 2, 1) := by decide +kernel
theorem d_X_satisfied_27 : decode y_X_satisfied.2.1 27 = .ok (.ishl, 1) := by decide +kernel
theorem d_X_satisfied_28 : decode y_X_satisfied.2.1 28 = .ok (.ior, 1) := by decide +kernel
theorem d_X_satisfied_29 : decode y_X_satisfied.2.1 29 = .ok (.istore_n 1, 1) := by decide +kernel
theorem d_X_satisfied_30 : decode y_X_satisfied.2.1 30 = .ok (.iinc 2 1, 3) := by decide +kernel
theorem d_X_satisfied_33 : decode y_X_satisfied.2.1 33 = .ok (.goto (-29), 3) := by decide +kernel
theorem d_X_satisfied_36 : decode y_X_satisfied.2.1 36 = .ok (.iload_n 1, 1) := by decide +kernel
theorem d_X_satisfied_37 : decode y_X_satisfied.2.1 37 = .ok (.ireturn, 1) := by decide +kernel
theorem d_X_lineUp_0 : decode y_X_lineUp.2.1 0 = .ok (.iconst 0, 1) := by decide +kernel
theorem d_X_lineUp_1 : decode y_X_lineUp.2.1 1 = .ok (.istore_n 1, 1) := by decide +kernel
theorem d_X_lineUp_2 : decode y_X_lineUp.2.1 2 = .ok (.iload_n 1, 1) := by decide +kernel
theorem d_X_lineUp_3 : decode y_X_lineUp.2.1 3 = .ok (.aload_n 0, 1) := by decide +kernel
theorem d_X_lineUp_4 : decode y_X_lineUp.2.1 4 = .ok (.getfield 229, 3) := by decide +kernel
theorem d_X_lineUp_7 : decode y_X_lineUp.2.1 7 = .ok (.if_icmp .ge 106, 3) := by decide +kernel
theorem d_X_lineUp_10 : decode y_X_lineUp.2.1 10 = .ok (.aload_n 0, 1) := by decide +kernel
theorem d_X_lineUp_11 : decode y_X_lineUp.2.1 11 = .ok (.getfield 46, 3) := by decide +kernel
theorem d_X_lineUp_14 : decode y_X_lineUp.2.1 14 = .ok (.iload_n 1, 1) := by decide +kernel
theorem d_X_lineUp_15 : decode y_X_lineUp.2.1 15 = .ok (.aaload, 1) := by decide +kernel
theorem d_X_lineUp_16 : decode y_X_lineUp.2.1 16 = .ok (.astore_n 2, 1) := by decide +kernel
theorem d_X_lineUp_17 : decode y_X_lineUp.2.1 17 = .ok (.aload_n 0, 1) := by decide +kernel
theorem d_X_lineUp_18 : decode y_X_lineUp.2.1 18 = .ok (.getfield 66, 3) := by decide +kernel
theorem d_X_lineUp_21 : decode y_X_lineUp.2.1 21 = .ok (.iload_n 1, 1) := by decide +kernel
theorem d_X_lineUp_22 : decode y_X_lineUp.2.1 22 = .ok (.aload_n 0, 1) := by decide +kernel
theorem d_X_lineUp_23 : decode y_X_lineUp.2.1 23 = .ok (.getfield 40, 3) := by decide +kernel
theorem d_X_lineUp_26 : decode y_X_lineUp.2.1 26 = .ok (.aload_n 0, 1) := by decide +kernel
theorem d_X_lineUp_27 : decode y_X_lineUp.2.1 27 = .ok (.getfield 115, 3) := by decide +kernel
theorem d_X_lineUp_30 : decode y_X_lineUp.2.1 30 = .ok (.aload_n 2, 1) := by decide +kernel
theorem d_X_lineUp_31 : decode y_X_lineUp.2.1 31 = .ok (.getfield 239, 3) := by decide +kernel
theorem d_X_lineUp_34 : decode y_X_lineUp.2.1 34 = .ok (.invokestatic 178, 3) := by decide +kernel
theorem d_X_lineUp_37 : decode y_X_lineUp.2.1 37 = .ok (.aload_n 2, 1) := by decide +kernel
theorem d_X_lineUp_38 : decode y_X_lineUp.2.1 38 = .ok (.getfield 246, 3) := by decide +kernel
theorem d_X_lineUp_41 : decode y_X_lineUp.2.1 41 = .ok (.invokestatic 271, 3) := by decide +kernel
theorem d_X_lineUp_44 : decode y_X_lineUp.2.1 44 = .ok (.aload_n 2, 1) := by decide +kernel
theorem d_X_lineUp_45 : decode y_X_lineUp.2.1 45 = .ok (.getfield 239, 3) := by decide +kernel
theorem d_X_lineUp_48 : decode y_X_lineUp.2.1 48 = .ok (.invokevirtual 187, 3) := by decide +kernel
theorem d_X_lineUp_51 : decode y_X_lineUp.2.1 51 = .ok (.iastore, 1) := by decide +kernel
theorem d_X_lineUp_52 : decode y_X_lineUp.2.1 52 = .ok (.iload_n 1, 1) := by decide +kernel
theorem d_X_lineUp_53 : decode y_X_lineUp.2.1 53 = .ok (.istore_n 3, 1) := by decide +kernel
theorem d_X_lineUp_54 : decode y_X_lineUp.2.1 54 = .ok (.iload_n 3, 1) := by decide +kernel
theorem d_X_lineUp_55 : decode y_X_lineUp.2.1 55 = .ok (.ifCond .le 45, 3) := by decide +kernel
theorem d_X_lineUp_58 : decode y_X_lineUp.2.1 58 = .ok (.aload_n 0, 1) := by decide +kernel
theorem d_X_lineUp_59 : decode y_X_lineUp.2.1 59 = .ok (.getfield 66, 3) := by decide +kernel
theorem d_X_lineUp_62 : decode y_X_lineUp.2.1 62 = .ok (.aload_n 0, 1) := by decide +kernel
theorem d_X_lineUp_63 : decode y_X_lineUp.2.1 63 = .ok (.getfield 63, 3) := by decide +kernel
theorem d_X_lineUp_66 : decode y_X_lineUp.2.1 66 = .ok (.iload_n 3, 1) := by decide +kernel
theorem d_X_lineUp_67 : decode y_X_lineUp.2.1 67 = .ok (.iconst 1, 1) := by decide +kernel
theorem d_X_lineUp_68 : decode y_X_lineUp.2.1 68 = .ok (.isub, 1) := by decide +kernel
theorem d_X_lineUp_69 : decode y_X_lineUp.2.1 69 = .ok (.iaload, 1) := by decide +kernel
theorem d_X_lineUp_70 : decode y_X_lineUp.2.1 70 = .ok (.iaload, 1) := by decide +kernel
theorem d_X_lineUp_71 : decode y_X_lineUp.2.1 71 = .ok (.aload_n 0, 1) := by decide +kernel
theorem d_X_lineUp_72 : decode y_X_lineUp.2.1 72 = .ok (.getfield 66, 3) := by decide +kernel
theorem d_X_lineUp_75 : decode y_X_lineUp.2.1 75 = .ok (.iload_n 1, 1) := by decide +kernel
theorem d_X_lineUp_76 : decode y_X_lineUp.2.1 76 = .ok (.iaload, 1) := by decide +kernel
theorem d_X_lineUp_77 : decode y_X_lineUp.2.1 77 = .ok (.if_icmp .ge 23, 3) := by decide +kernel
theorem d_X_lineUp_80 : decode y_X_lineUp.2.1 80 = .ok (.aload_n 0, 1) := by decide +kernel
theorem d_X_lineUp_81 : decode y_X_lineUp.2.1 81 = .ok (.getfield 63, 3) := by decide +kernel
theorem d_X_lineUp_84 : decode y_X_lineUp.2.1 84 = .ok (.iload_n 3, 1) := by decide +kernel
theorem d_X_lineUp_85 : decode y_X_lineUp.2.1 85 = .ok (.aload_n 0, 1) := by decide +kernel
theorem d_X_lineUp_86 : decode y_X_lineUp.2.1 86 = .ok (.getfield 63, 3) := by decide +kernel
theorem d_X_lineUp_89 : decode y_X_lineUp.2.1 89 = .ok (.iload_n 3, 1) := by decide +kernel
theorem d_X_lineUp_90 : decode y_X_lineUp.2.1 90 = .ok (.iconst 1, 1) := by decide +kernel
theorem d_X_lineUp_91 : decode y_X_lineUp.2.1 91 = .ok (.isub, 1) := by decide +kernel
theorem d_X_lineUp_92 : decode y_X_lineUp.2.1 92 = .ok (.iaload, 1) := by decide +kernel
theorem d_X_lineUp_93 : decode y_X_lineUp.2.1 93 = .ok (.iastore, 1) := by decide +kernel
theorem d_X_lineUp_94 : decode y_X_lineUp.2.1 94 = .ok (.iinc 3 (-1), 3) := by decide +kernel
theorem d_X_lineUp_97 : decode y_X_lineUp.2.1 97 = .ok (.goto (-43), 3) := by decide +kernel
theorem d_X_lineUp_100 : decode y_X_lineUp.2.1 100 = .ok (.aload_n 0, 1) := by decide +kernel
theorem d_X_lineUp_101 : decode y_X_lineUp.2.1 101 = .ok (.getfield 63, 3) := by decide +kernel
theorem d_X_lineUp_104 : decode y_X_lineUp.2.1 104 = .ok (.iload_n 3, 1) := by decide +kernel
theorem d_X_lineUp_105 : decode y_X_lineUp.2.1 105 = .ok (.iload_n 1, 1) := by decide +kernel
theorem d_X_lineUp_106 : decode y_X_lineUp.2.1 106 = .ok (.iastore, 1) := by decide +kernel
theorem d_X_lineUp_107 : decode y_X_lineUp.2.1 107 = .ok (.iinc 1 1, 3) := by decide +kernel
theorem d_X_lineUp_110 : decode y_X_lineUp.2.1 110 = .ok (.goto (-108), 3) := by decide +kernel
theorem d_X_lineUp_113 : decode y_X_lineUp.2.1 113 = .ok (.return_, 1) := by decide +kernel
theorem d_X_turn_0 : decode y_X_turn.2.1 0 = .ok (.aload_n 0, 1) := by decide +kernel
theorem d_X_turn_1 : decode y_X_turn.2.1 1 = .ok (.getfield 46, 3) := by decide +kernel
theorem d_X_turn_4 : decode y_X_turn.2.1 4 = .ok (.iload_n 1, 1) := by decide +kernel
theorem d_X_turn_5 : decode y_X_turn.2.1 5 = .ok (.aaload, 1) := by decide +kernel
theorem d_X_turn_6 : decode y_X_turn.2.1 6 = .ok (.astore_n 2, 1) := by decide +kernel
theorem d_X_turn_7 : decode y_X_turn.2.1 7 = .ok (.aload_n 2, 1) := by decide +kernel
theorem d_X_turn_8 : decode y_X_turn.2.1 8 = .ok (.invokevirtual 254, 3) := by decide +kernel
theorem d_X_turn_11 : decode y_X_turn.2.1 11 = .ok (.istore_n 3, 1) := by decide +kernel
theorem d_X_turn_12 : decode y_X_turn.2.1 12 = .ok (.aload_n 2, 1) := by decide +kernel
theorem d_X_turn_13 : decode y_X_turn.2.1 13 = .ok (.getfield 239, 3) := by decide +kernel
theorem d_X_turn_16 : decode y_X_turn.2.1 16 = .ok (.istore 4, 2) := by decide +kernel
theorem d_X_turn_18 : decode y_X_turn.2.1 18 = .ok (.iload_n 3, 1) := by decide +kernel
theorem d_X_turn_19 : decode y_X_turn.2.1 19 = .ok (.aload_n 0, 1) := by decide +kernel
theorem d_X_turn_20 : decode y_X_turn.2.1 20 = .ok (.getfield 115, 3) := by decide +kernel
theorem d_X_turn_23 : decode y_X_turn.2.1 23 = .ok (.iload 4, 2) := by decide +kernel
theorem d_X_turn_25 : decode y_X_turn.2.1 25 = .ok (.invokestatic 178, 3) := by decide +kernel
theorem d_X_turn_28 : decode y_X_turn.2.1 28 = .ok (.iand, 1) := by decide +kernel
theorem d_X_turn_29 : decode y_X_turn.2.1 29 = .ok (.invokestatic 276, 3) := by decide +kernel
theorem d_X_turn_32 : decode y_X_turn.2.1 32 = .ok (.istore 5, 2) := by decide +kernel
theorem d_X_turn_34 : decode y_X_turn.2.1 34 = .ok (.iload 5, 2) := by decide +kernel
theorem d_X_turn_36 : decode y_X_turn.2.1 36 = .ok (.iconst (-1), 1) := by decide +kernel
theorem d_X_turn_37 : decode y_X_turn.2.1 37 = .ok (.if_icmp .eq 20, 3) := by decide +kernel
theorem d_X_turn_40 : decode y_X_turn.2.1 40 = .ok (.aload_n 0, 1) := by decide +kernel
theorem d_X_turn_41 : decode y_X_turn.2.1 41 = .ok (.aload_n 2, 1) := by decide +kernel
theorem d_X_turn_42 : decode y_X_turn.2.1 42 = .ok (.iload 5, 2) := by decide +kernel
theorem d_X_turn_44 : decode y_X_turn.2.1 44 = .ok (.invokevirtual 242, 3) := by decide +kernel
theorem d_X_turn_47 : decode y_X_turn.2.1 47 = .ok (.aload_n 0, 1) := by decide +kernel
theorem d_X_turn_48 : decode y_X_turn.2.1 48 = .ok (.iload_n 1, 1) := by decide +kernel
theorem d_X_turn_49 : decode y_X_turn.2.1 49 = .ok (.iconst 1, 1) := by decide +kernel
theorem d_X_turn_50 : decode y_X_turn.2.1 50 = .ok (.iload 5, 2) := by decide +kernel
theorem d_X_turn_52 : decode y_X_turn.2.1 52 = .ok (.invokevirtual 279, 3) := by decide +kernel
theorem d_X_turn_55 : decode y_X_turn.2.1 55 = .ok (.iconst 1, 1) := by decide +kernel
theorem d_X_turn_56 : decode y_X_turn.2.1 56 = .ok (.ireturn, 1) := by decide +kernel
theorem d_X_turn_57 : decode y_X_turn.2.1 57 = .ok (.aload_n 0, 1) := by decide +kernel
theorem d_X_turn_58 : decode y_X_turn.2.1 58 = .ok (.getfield 19, 3) := by decide +kernel
theorem d_X_turn_61 : decode y_X_turn.2.1 61 = .ok (.aload_n 0, 1) := by decide +kernel
theorem d_X_turn_62 : decode y_X_turn.2.1 62 = .ok (.getfield 115, 3) := by decide +kernel
theorem d_X_turn_65 : decode y_X_turn.2.1 65 = .ok (.aload_n 0, 1) := by decide +kernel
theorem d_X_turn_66 : decode y_X_turn.2.1 66 = .ok (.getfield 19, 3) := by decide +kernel
theorem d_X_turn_69 : decode y_X_turn.2.1 69 = .ok (.invokevirtual 191, 3) := by decide +kernel
theorem d_X_turn_72 : decode y_X_turn.2.1 72 = .ok (.iload 4, 2) := by decide +kernel
theorem d_X_turn_74 : decode y_X_turn.2.1 74 = .ok (.invokevirtual 212, 3) := by decide +kernel
theorem d_X_turn_77 : decode y_X_turn.2.1 77 = .ok (.istore 6, 2) := by decide +kernel
theorem d_X_turn_79 : decode y_X_turn.2.1 79 = .ok (.iload_n 3, 1) := by decide +kernel
theorem d_X_turn_80 : decode y_X_turn.2.1 80 = .ok (.iload 6, 2) := by decide +kernel
theorem d_X_turn_82 : decode y_X_turn.2.1 82 = .ok (.iand, 1) := by decide +kernel
theorem d_X_turn_83 : decode y_X_turn.2.1 83 = .ok (.invokestatic 276, 3) := by decide +kernel
theorem d_X_turn_86 : decode y_X_turn.2.1 86 = .ok (.istore 5, 2) := by decide +kernel
theorem d_X_turn_88 : decode y_X_turn.2.1 88 = .ok (.iload 5, 2) := by decide +kernel
theorem d_X_turn_90 : decode y_X_turn.2.1 90 = .ok (.iconst (-1), 1) := by decide +kernel
theorem d_X_turn_91 : decode y_X_turn.2.1 91 = .ok (.if_icmp .ne 14, 3) := by decide +kernel
theorem d_X_turn_94 : decode y_X_turn.2.1 94 = .ok (.aload_n 0, 1) := by decide +kernel
theorem d_X_turn_95 : decode y_X_turn.2.1 95 = .ok (.iload 6, 2) := by decide +kernel
theorem d_X_turn_97 : decode y_X_turn.2.1 97 = .ok (.iload 4, 2) := by decide +kernel
theorem d_X_turn_99 : decode y_X_turn.2.1 99 = .ok (.aload_n 2, 1) := by decide +kernel
theorem d_X_turn_100 : decode y_X_turn.2.1 100 = .ok (.invokevirtual 283, 3) := by decide +kernel
theorem d_X_turn_103 : decode y_X_turn.2.1 103 = .ok (.istore 5, 2) := by decide +kernel
theorem d_X_turn_105 : decode y_X_turn.2.1 105 = .ok (.iload 5, 2) := by decide +kernel
theorem d_X_turn_107 : decode y_X_turn.2.1 107 = .ok (.iconst (-1), 1) := by decide +kernel
theorem d_X_turn_108 : decode y_X_turn.2.1 108 = .ok (.if_icmp .eq 26, 3) := by decide +kernel
theorem d_X_turn_111 : decode y_X_turn.2.1 111 = .ok (.aload_n 0, 1) := by decide +kernel
theorem d_X_turn_112 : decode y_X_turn.2.1 112 = .ok (.iload 4, 2) := by decide +kernel
theorem d_X_turn_114 : decode y_X_turn.2.1 114 = .ok (.bipush 20, 2) := by decide +kernel
theorem d_X_turn_116 : decode y_X_turn.2.1 116 = .ok (.imul, 1) := by decide +kernel
theorem d_X_turn_117 : decode y_X_turn.2.1 117 = .ok (.iload 5, 2) := by decide +kernel
theorem d_X_turn_119 : decode y_X_turn.2.1 119 = .ok (.iadd, 1) := by decide +kernel
theorem d_X_turn_120 : decode y_X_turn.2.1 120 = .ok (.invokevirtual 199, 3) := by decide +kernel
theorem d_X_turn_123 : decode y_X_turn.2.1 123 = .ok (.pop, 1) := by decide +kernel
theorem d_X_turn_124 : decode y_X_turn.2.1 124 = .ok (.aload_n 0, 1) := by decide +kernel
theorem d_X_turn_125 : decode y_X_turn.2.1 125 = .ok (.iload_n 1, 1) := by decide +kernel
theorem d_X_turn_126 : decode y_X_turn.2.1 126 = .ok (.iconst 2, 1) := by decide +kernel
theorem d_X_turn_127 : decode y_X_turn.2.1 127 = .ok (.iload 5, 2) := by decide +kernel
theorem d_X_turn_129 : decode y_X_turn.2.1 129 = .ok (.invokevirtual 279, 3) := by decide +kernel
theorem d_X_turn_132 : decode y_X_turn.2.1 132 = .ok (.iconst 1, 1) := by decide +kernel
theorem d_X_turn_133 : decode y_X_turn.2.1 133 = .ok (.ireturn, 1) := by decide +kernel
theorem d_X_turn_134 : decode y_X_turn.2.1 134 = .ok (.aload_n 0, 1) := by decide +kernel
theorem d_X_turn_135 : decode y_X_turn.2.1 135 = .ok (.aload_n 0, 1) := by decide +kernel
theorem d_X_turn_136 : decode y_X_turn.2.1 136 = .ok (.getfield 115, 3) := by decide +kernel
theorem d_X_turn_139 : decode y_X_turn.2.1 139 = .ok (.iload 4, 2) := by decide +kernel
theorem d_X_turn_141 : decode y_X_turn.2.1 141 = .ok (.invokestatic 178, 3) := by decide +kernel
theorem d_X_turn_144 : decode y_X_turn.2.1 144 = .ok (.iconst 3, 1) := by decide +kernel
theorem d_X_turn_145 : decode y_X_turn.2.1 145 = .ok (.aload_n 2, 1) := by decide +kernel
theorem d_X_turn_146 : decode y_X_turn.2.1 146 = .ok (.invokevirtual 283, 3) := by decide +kernel
theorem d_X_turn_149 : decode y_X_turn.2.1 149 = .ok (.istore 5, 2) := by decide +kernel
theorem d_X_turn_151 : decode y_X_turn.2.1 151 = .ok (.iload 5, 2) := by decide +kernel
theorem d_X_turn_153 : decode y_X_turn.2.1 153 = .ok (.iconst (-1), 1) := by decide +kernel
theorem d_X_turn_154 : decode y_X_turn.2.1 154 = .ok (.if_icmp .eq 23, 3) := by decide +kernel
theorem d_X_turn_157 : decode y_X_turn.2.1 157 = .ok (.aload_n 0, 1) := by decide +kernel
theorem d_X_turn_158 : decode y_X_turn.2.1 158 = .ok (.bipush 60, 2) := by decide +kernel
theorem d_X_turn_160 : decode y_X_turn.2.1 160 = .ok (.iload 5, 2) := by decide +kernel
theorem d_X_turn_162 : decode y_X_turn.2.1 162 = .ok (.iadd, 1) := by decide +kernel
theorem d_X_turn_163 : decode y_X_turn.2.1 163 = .ok (.invokevirtual 199, 3) := by decide +kernel
theorem d_X_turn_166 : decode y_X_turn.2.1 166 = .ok (.pop, 1) := by decide +kernel
theorem d_X_turn_167 : decode y_X_turn.2.1 167 = .ok (.aload_n 0, 1) := by decide +kernel
theorem d_X_turn_168 : decode y_X_turn.2.1 168 = .ok (.iload_n 1, 1) := by decide +kernel
theorem d_X_turn_169 : decode y_X_turn.2.1 169 = .ok (.iconst 3, 1) := by decide +kernel
theorem d_X_turn_170 : decode y_X_turn.2.1 170 = .ok (.iload 5, 2) := by decide +kernel
theorem d_X_turn_172 : decode y_X_turn.2.1 172 = .ok (.invokevirtual 279, 3) := by decide +kernel
theorem d_X_turn_175 : decode y_X_turn.2.1 175 = .ok (.iconst 1, 1) := by decide +kernel
theorem d_X_turn_176 : decode y_X_turn.2.1 176 = .ok (.ireturn, 1) := by decide +kernel
theorem d_X_turn_177 : decode y_X_turn.2.1 177 = .ok (.aload_n 0, 1) := by decide +kernel
theorem d_X_turn_178 : decode y_X_turn.2.1 178 = .ok (.iload_n 1, 1) := by decide +kernel
theorem d_X_turn_179 : decode y_X_turn.2.1 179 = .ok (.iconst 0, 1) := by decide +kernel
theorem d_X_turn_180 : decode y_X_turn.2.1 180 = .ok (.iconst 0, 1) := by decide +kernel
theorem d_X_turn_181 : decode y_X_turn.2.1 181 = .ok (.invokevirtual 279, 3) := by decide +kernel
theorem d_X_turn_184 : decode y_X_turn.2.1 184 = .ok (.iconst 0, 1) := by decide +kernel
theorem d_X_turn_185 : decode y_X_turn.2.1 185 = .ok (.ireturn, 1) := by decide +kernel
theorem d_X_leading_0 : decode y_X_leading.2.1 0 = .ok (.aload_n 3, 1) := by decide +kernel
theorem d_X_leading_1 : decode y_X_leading.2.1 1 = .ok (.invokevirtual 254, 3) := by decide +kernel
theorem d_X_leading_4 : decode y_X_leading.2.1 4 = .ok (.istore 4, 2) := by decide +kernel
theorem d_X_leading_6 : decode y_X_leading.2.1 6 = .ok (.aload_n 0, 1) := by decide +kernel
theorem d_X_leading_7 : decode y_X_leading.2.1 7 = .ok (.getfield 19, 3) := by decide +kernel
theorem d_X_leading_10 : decode y_X_leading.2.1 10 = .ok (.invokevirtual 191, 3) := by decide +kernel
theorem d_X_leading_13 : decode y_X_leading.2.1 13 = .ok (.istore 5, 2) := by decide +kernel
theorem d_X_leading_15 : decode y_X_leading.2.1 15 = .ok (.iconst 0, 1) := by decide +kernel
theorem d_X_leading_16 : decode y_X_leading.2.1 16 = .ok (.istore 6, 2) := by decide +kernel
theorem d_X_leading_18 : decode y_X_leading.2.1 18 = .ok (.iload 6, 2) := by decide +kernel
theorem d_X_leading_20 : decode y_X_leading.2.1 20 = .ok (.bipush 12, 2) := by decide +kernel
theorem d_X_leading_22 : decode y_X_leading.2.1 22 = .ok (.if_icmp .ge 67, 3) := by decide +kernel
theorem d_X_leading_25 : decode y_X_leading.2.1 25 = .ok (.iload 4, 2) := by decide +kernel
theorem d_X_leading_27 : decode y_X_leading.2.1 27 = .ok (.ifCond .eq 62, 3) := by decide +kernel
theorem d_X_leading_30 : decode y_X_leading.2.1 30 = .ok (.iload_n 1, 1) := by decide +kernel
theorem d_X_leading_31 : decode y_X_leading.2.1 31 = .ok (.iload 6, 2) := by decide +kernel
theorem d_X_leading_33 : decode y_X_leading.2.1 33 = .ok (.ishr, 1) := by decide +kernel
theorem d_X_leading_34 : decode y_X_leading.2.1 34 = .ok (.iconst 1, 1) := by decide +kernel
theorem d_X_leading_35 : decode y_X_leading.2.1 35 = .ok (.iand, 1) := by decide +kernel
theorem d_X_leading_36 : decode y_X_leading.2.1 36 = .ok (.ifCond .eq 47, 3) := by decide +kernel
theorem d_X_leading_39 : decode y_X_leading.2.1 39 = .ok (.aload_n 0, 1) := by decide +kernel
theorem d_X_leading_40 : decode y_X_leading.2.1 40 = .ok (.getfield 19, 3) := by decide +kernel
theorem d_X_leading_43 : decode y_X_leading.2.1 43 = .ok (.aload_n 0, 1) := by decide +kernel
theorem d_X_leading_44 : decode y_X_leading.2.1 44 = .ok (.getfield 115, 3) := by decide +kernel
theorem d_X_leading_47 : decode y_X_leading.2.1 47 = .ok (.iload_n 2, 1) := by decide +kernel
theorem d_X_leading_48 : decode y_X_leading.2.1 48 = .ok (.bipush 20, 2) := by decide +kernel
theorem d_X_leading_50 : decode y_X_leading.2.1 50 = .ok (.imul, 1) := by decide +kernel
theorem d_X_leading_51 : decode y_X_leading.2.1 51 = .ok (.iload 6, 2) := by decide +kernel
theorem d_X_leading_53 : decode y_X_leading.2.1 53 = .ok (.iadd, 1) := by decide +kernel
theorem d_X_leading_54 : decode y_X_leading.2.1 54 = .ok (.invokevirtual 206, 3) := by decide +kernel
theorem d_X_leading_57 : decode y_X_leading.2.1 57 = .ok (.lstore 7, 2) := by decide +kernel
theorem d_X_leading_59 : decode y_X_leading.2.1 59 = .ok (.iload 4, 2) := by decide +kernel
theorem d_X_leading_61 : decode y_X_leading.2.1 61 = .ok (.aload_n 0, 1) := by decide +kernel
theorem d_X_leading_62 : decode y_X_leading.2.1 62 = .ok (.getfield 19, 3) := by decide +kernel
theorem d_X_leading_65 : decode y_X_leading.2.1 65 = .ok (.lload 7, 2) := by decide +kernel
theorem d_X_leading_67 : decode y_X_leading.2.1 67 = .ok (.iload 5, 2) := by decide +kernel
theorem d_X_leading_69 : decode y_X_leading.2.1 69 = .ok (.aload_n 3, 1) := by decide +kernel
theorem d_X_leading_70 : decode y_X_leading.2.1 70 = .ok (.getfield 239, 3) := by decide +kernel
theorem d_X_leading_73 : decode y_X_leading.2.1 73 = .ok (.invokevirtual 212, 3) := by decide +kernel
theorem d_X_leading_76 : decode y_X_leading.2.1 76 = .ok (.iand, 1) := by decide +kernel
theorem d_X_leading_77 : decode y_X_leading.2.1 77 = .ok (.ifCond .eq 6, 3) := by decide +kernel
theorem d_X_leading_80 : decode y_X_leading.2.1 80 = .ok (.iload 6, 2) := by decide +kernel
theorem d_X_leading_82 : decode y_X_leading.2.1 82 = .ok (.ireturn, 1) := by decide +kernel
theorem d_X_leading_83 : decode y_X_leading.2.1 83 = .ok (.iinc 6 1, 3) := by decide +kernel
theorem d_X_leading_86 : decode y_X_leading.2.1 86 = .ok (.goto (-68), 3) := by decide +kernel
theorem d_X_leading_89 : decode y_X_leading.2.1 89 = .ok (.iconst (-1), 1) := by decide +kernel
theorem d_X_leading_90 : decode y_X_leading.2.1 90 = .ok (.ireturn, 1) := by decide +kernel
theorem d_X_note_0 : decode y_X_note.2.1 0 = .ok (.aload_n 0, 1) := by decide +kernel
theorem d_X_note_1 : decode y_X_note.2.1 1 = .ok (.getfield 56, 3) := by decide +kernel
theorem d_X_note_4 : decode y_X_note.2.1 4 = .ok (.aload_n 0, 1) := by decide +kernel
theorem d_X_note_5 : decode y_X_note.2.1 5 = .ok (.getfield 287, 3) := by decide +kernel
theorem d_X_note_8 : decode y_X_note.2.1 8 = .ok (.bipush 60, 2) := by decide +kernel
theorem d_X_note_10 : decode y_X_note.2.1 10 = .ok (.irem, 1) := by decide +kernel
theorem d_X_note_11 : decode y_X_note.2.1 11 = .ok (.bipush 100, 2) := by decide +kernel
theorem d_X_note_13 : decode y_X_note.2.1 13 = .ok (.iload_n 1, 1) := by decide +kernel
theorem d_X_note_14 : decode y_X_note.2.1 14 = .ok (.imul, 1) := by decide +kernel
theorem d_X_note_15 : decode y_X_note.2.1 15 = .ok (.bipush 20, 2) := by decide +kernel
theorem d_X_note_17 : decode y_X_note.2.1 17 = .ok (.iload_n 2, 1) := by decide +kernel
theorem d_X_note_18 : decode y_X_note.2.1 18 = .ok (.imul, 1) := by decide +kernel
theorem d_X_note_19 : decode y_X_note.2.1 19 = .ok (.iadd, 1) := by decide +kernel
theorem d_X_note_20 : decode y_X_note.2.1 20 = .ok (.iload_n 3, 1) := by decide +kernel
theorem d_X_note_21 : decode y_X_note.2.1 21 = .ok (.iadd, 1) := by decide +kernel
theorem d_X_note_22 : decode y_X_note.2.1 22 = .ok (.iastore, 1) := by decide +kernel
theorem d_X_note_23 : decode y_X_note.2.1 23 = .ok (.aload_n 0, 1) := by decide +kernel
theorem d_X_note_24 : decode y_X_note.2.1 24 = .ok (.dup, 1) := by decide +kernel
theorem d_X_note_25 : decode y_X_note.2.1 25 = .ok (.getfield 287, 3) := by decide +kernel
theorem d_X_note_28 : decode y_X_note.2.1 28 = .ok (.iconst 1, 1) := by decide +kernel
theorem d_X_note_29 : decode y_X_note.2.1 29 = .ok (.iadd, 1) := by decide +kernel
theorem d_X_note_30 : decode y_X_note.2.1 30 = .ok (.putfield 287, 3) := by decide +kernel
theorem d_X_note_33 : decode y_X_note.2.1 33 = .ok (.return_, 1) := by decide +kernel
theorem d_X_log_0 : decode y_X_log.2.1 0 = .ok (.iload_n 1, 1) := by decide +kernel
theorem d_X_log_1 : decode y_X_log.2.1 1 = .ok (.ifCond .ge 5, 3) := by decide +kernel
theorem d_X_log_4 : decode y_X_log.2.1 4 = .ok (.iconst (-1), 1) := by decide +kernel
theorem d_X_log_5 : decode y_X_log.2.1 5 = .ok (.ireturn, 1) := by decide +kernel
theorem d_X_log_6 : decode y_X_log.2.1 6 = .ok (.iload_n 1, 1) := by decide +kernel
theorem d_X_log_7 : decode y_X_log.2.1 7 = .ok (.aload_n 0, 1) := by decide +kernel
theorem d_X_log_8 : decode y_X_log.2.1 8 = .ok (.invokevirtual 290, 3) := by decide +kernel
theorem d_X_log_11 : decode y_X_log.2.1 11 = .ok (.if_icmp .ge 22, 3) := by decide +kernel
theorem d_X_log_14 : decode y_X_log.2.1 14 = .ok (.aload_n 0, 1) := by decide +kernel
theorem d_X_log_15 : decode y_X_log.2.1 15 = .ok (.getfield 56, 3) := by decide +kernel
theorem d_X_log_18 : decode y_X_log.2.1 18 = .ok (.aload_n 0, 1) := by decide +kernel
theorem d_X_log_19 : decode y_X_log.2.1 19 = .ok (.getfield 287, 3) := by decide +kernel
theorem d_X_log_22 : decode y_X_log.2.1 22 = .ok (.iconst 1, 1) := by decide +kernel
theorem d_X_log_23 : decode y_X_log.2.1 23 = .ok (.isub, 1) := by decide +kernel
theorem d_X_log_24 : decode y_X_log.2.1 24 = .ok (.iload_n 1, 1) := by decide +kernel
theorem d_X_log_25 : decode y_X_log.2.1 25 = .ok (.isub, 1) := by decide +kernel
theorem d_X_log_26 : decode y_X_log.2.1 26 = .ok (.bipush 60, 2) := by decide +kernel
theorem d_X_log_28 : decode y_X_log.2.1 28 = .ok (.irem, 1) := by decide +kernel
theorem d_X_log_29 : decode y_X_log.2.1 29 = .ok (.iaload, 1) := by decide +kernel
theorem d_X_log_30 : decode y_X_log.2.1 30 = .ok (.goto 5, 3) := by decide +kernel
theorem d_X_log_33 : decode y_X_log.2.1 33 = .ok (.bipush (-2), 2) := by decide +kernel
theorem d_X_log_35 : decode y_X_log.2.1 35 = .ok (.ireturn, 1) := by decide +kernel
theorem d_X_logKept_0 : decode y_X_logKept.2.1 0 = .ok (.aload_n 0, 1) := by decide +kernel
theorem d_X_logKept_1 : decode y_X_logKept.2.1 1 = .ok (.getfield 287, 3) := by decide +kernel
theorem d_X_logKept_4 : decode y_X_logKept.2.1 4 = .ok (.bipush 60, 2) := by decide +kernel
theorem d_X_logKept_6 : decode y_X_logKept.2.1 6 = .ok (.invokestatic 151, 3) := by decide +kernel
theorem d_X_logKept_9 : decode y_X_logKept.2.1 9 = .ok (.ireturn, 1) := by decide +kernel
theorem d_X_order_0 : decode y_X_order.2.1 0 = .ok (.aload_n 0, 1) := by decide +kernel
theorem d_X_order_1 : decode y_X_order.2.1 1 = .ok (.invokevirtual 259, 3) := by decide +kernel
theorem d_X_order_4 : decode y_X_order.2.1 4 = .ok (.aload_n 0, 1) := by decide +kernel
theorem d_X_order_5 : decode y_X_order.2.1 5 = .ok (.iconst 0, 1) := by decide +kernel
theorem d_X_order_6 : decode y_X_order.2.1 6 = .ok (.putfield 209, 3) := by decide +kernel
theorem d_X_order_9 : decode y_X_order.2.1 9 = .ok (.iconst 0, 1) := by decide +kernel
theorem d_X_order_10 : decode y_X_order.2.1 10 = .ok (.istore_n 1, 1) := by decide +kernel
theorem d_X_order_11 : decode y_X_order.2.1 11 = .ok (.iload_n 1, 1) := by decide +kernel
theorem d_X_order_12 : decode y_X_order.2.1 12 = .ok (.aload_n 0, 1) := by decide +kernel
theorem d_X_order_13 : decode y_X_order.2.1 13 = .ok (.getfield 229, 3) := by decide +kernel
theorem d_X_order_16 : decode y_X_order.2.1 16 = .ok (.if_icmp .ge 19, 3) := by decide +kernel
theorem d_X_order_19 : decode y_X_order.2.1 19 = .ok (.aload_n 0, 1) := by decide +kernel
theorem d_X_order_20 : decode y_X_order.2.1 20 = .ok (.aload_n 0, 1) := by decide +kernel
theorem d_X_order_21 : decode y_X_order.2.1 21 = .ok (.getfield 63, 3) := by decide +kernel
theorem d_X_order_24 : decode y_X_order.2.1 24 = .ok (.iload_n 1, 1) := by decide +kernel
theorem d_X_order_25 : decode y_X_order.2.1 25 = .ok (.iaload, 1) := by decide +kernel
theorem d_X_order_26 : decode y_X_order.2.1 26 = .ok (.invokevirtual 215, 3) := by decide +kernel
theorem d_X_order_29 : decode y_X_order.2.1 29 = .ok (.iinc 1 1, 3) := by decide +kernel
theorem d_X_order_32 : decode y_X_order.2.1 32 = .ok (.goto (-21), 3) := by decide +kernel
theorem d_X_order_35 : decode y_X_order.2.1 35 = .ok (.aload_n 0, 1) := by decide +kernel
theorem d_X_order_36 : decode y_X_order.2.1 36 = .ok (.getfield 229, 3) := by decide +kernel
theorem d_X_order_39 : decode y_X_order.2.1 39 = .ok (.ireturn, 1) := by decide +kernel
theorem d_X_ring_0 : decode y_X_ring.2.1 0 = .ok (.iconst 0, 1) := by decide +kernel
theorem d_X_ring_1 : decode y_X_ring.2.1 1 = .ok (.istore_n 1, 1) := by decide +kernel
theorem d_X_ring_2 : decode y_X_ring.2.1 2 = .ok (.iload_n 1, 1) := by decide +kernel
theorem d_X_ring_3 : decode y_X_ring.2.1 3 = .ok (.aload_n 0, 1) := by decide +kernel
theorem d_X_ring_4 : decode y_X_ring.2.1 4 = .ok (.getfield 229, 3) := by decide +kernel
theorem d_X_ring_7 : decode y_X_ring.2.1 7 = .ok (.if_icmp .ge 88, 3) := by decide +kernel
theorem d_X_ring_10 : decode y_X_ring.2.1 10 = .ok (.aload_n 0, 1) := by decide +kernel
theorem d_X_ring_11 : decode y_X_ring.2.1 11 = .ok (.getfield 72, 3) := by decide +kernel
theorem d_X_ring_14 : decode y_X_ring.2.1 14 = .ok (.iload_n 1, 1) := by decide +kernel
theorem d_X_ring_15 : decode y_X_ring.2.1 15 = .ok (.iconst 0, 1) := by decide +kernel
theorem d_X_ring_16 : decode y_X_ring.2.1 16 = .ok (.iastore, 1) := by decide +kernel
theorem d_X_ring_17 : decode y_X_ring.2.1 17 = .ok (.iconst 0, 1) := by decide +kernel
theorem d_X_ring_18 : decode y_X_ring.2.1 18 = .ok (.istore_n 2, 1) := by decide +kernel
theorem d_X_ring_19 : decode y_X_ring.2.1 19 = .ok (.iload_n 2, 1) := by decide +kernel
theorem d_X_ring_20 : decode y_X_ring.2.1 20 = .ok (.aload_n 0, 1) := by decide +kernel
theorem d_X_ring_21 : decode y_X_ring.2.1 21 = .ok (.getfield 229, 3) := by decide +kernel
theorem d_X_ring_24 : decode y_X_ring.2.1 24 = .ok (.if_icmp .ge 65, 3) := by decide +kernel
theorem d_X_ring_27 : decode y_X_ring.2.1 27 = .ok (.aload_n 0, 1) := by decide +kernel
theorem d_X_ring_28 : decode y_X_ring.2.1 28 = .ok (.getfield 46, 3) := by decide +kernel
theorem d_X_ring_31 : decode y_X_ring.2.1 31 = .ok (.iload_n 2, 1) := by decide +kernel
theorem d_X_ring_32 : decode y_X_ring.2.1 32 = .ok (.aaload, 1) := by decide +kernel
theorem d_X_ring_33 : decode y_X_ring.2.1 33 = .ok (.getfield 239, 3) := by decide +kernel
theorem d_X_ring_36 : decode y_X_ring.2.1 36 = .ok (.istore_n 3, 1) := by decide +kernel
theorem d_X_ring_37 : decode y_X_ring.2.1 37 = .ok (.iload_n 3, 1) := by decide +kernel
theorem d_X_ring_38 : decode y_X_ring.2.1 38 = .ok (.aload_n 0, 1) := by decide +kernel
theorem d_X_ring_39 : decode y_X_ring.2.1 39 = .ok (.getfield 46, 3) := by decide +kernel
theorem d_X_ring_42 : decode y_X_ring.2.1 42 = .ok (.iload_n 1, 1) := by decide +kernel
theorem d_X_ring_43 : decode y_X_ring.2.1 43 = .ok (.aaload, 1) := by decide +kernel
theorem d_X_ring_44 : decode y_X_ring.2.1 44 = .ok (.getfield 239, 3) := by decide +kernel
theorem d_X_ring_47 : decode y_X_ring.2.1 47 = .ok (.if_icmp .eq 36, 3) := by decide +kernel
theorem d_X_ring_50 : decode y_X_ring.2.1 50 = .ok (.aload_n 0, 1) := by decide +kernel
theorem d_X_ring_51 : decode y_X_ring.2.1 51 = .ok (.getfield 46, 3) := by decide +kernel
theorem d_X_ring_54 : decode y_X_ring.2.1 54 = .ok (.iload_n 1, 1) := by decide +kernel
theorem d_X_ring_55 : decode y_X_ring.2.1 55 = .ok (.aaload, 1) := by decide +kernel
theorem d_X_ring_56 : decode y_X_ring.2.1 56 = .ok (.invokevirtual 254, 3) := by decide +kernel
theorem d_X_ring_59 : decode y_X_ring.2.1 59 = .ok (.aload_n 0, 1) := by decide +kernel
theorem d_X_ring_60 : decode y_X_ring.2.1 60 = .ok (.getfield 115, 3) := by decide +kernel
theorem d_X_ring_63 : decode y_X_ring.2.1 63 = .ok (.iload_n 3, 1) := by decide +kernel
theorem d_X_ring_64 : decode y_X_ring.2.1 64 = .ok (.invokestatic 178, 3) := by decide +kernel
theorem d_X_ring_67 : decode y_X_ring.2.1 67 = .ok (.iand, 1) := by decide +kernel
theorem d_X_ring_68 : decode y_X_ring.2.1 68 = .ok (.ifCond .eq 15, 3) := by decide +kernel
theorem d_X_ring_71 : decode y_X_ring.2.1 71 = .ok (.aload_n 0, 1) := by decide +kernel
theorem d_X_ring_72 : decode y_X_ring.2.1 72 = .ok (.getfield 72, 3) := by decide +kernel
theorem d_X_ring_75 : decode y_X_ring.2.1 75 = .ok (.iload_n 1, 1) := by decide +kernel
theorem d_X_ring_76 : decode y_X_ring.2.1 76 = .ok (.dup2, 1) := by decide +kernel
theorem d_X_ring_77 : decode y_X_ring.2.1 77 = .ok (.iaload, 1) := by decide +kernel
theorem d_X_ring_78 : decode y_X_ring.2.1 78 = .ok (.iconst 1, 1) := by decide +kernel
theorem d_X_ring_79 : decode y_X_ring.2.1 79 = .ok (.iload_n 2, 1) := by decide +kernel
theorem d_X_ring_80 : decode y_X_ring.2.1 80 = .ok (.ishl, 1) := by decide +kernel
theorem d_X_ring_81 : decode y_X_ring.2.1 81 = .ok (.ior, 1) := by decide +kernel
theorem d_X_ring_82 : decode y_X_ring.2.1 82 = .ok (.iastore, 1) := by decide +kernel
theorem d_X_ring_83 : decode y_X_ring.2.1 83 = .ok (.iinc 2 1, 3) := by decide +kernel
theorem d_X_ring_86 : decode y_X_ring.2.1 86 = .ok (.goto (-67), 3) := by decide +kernel
theorem d_X_ring_89 : decode y_X_ring.2.1 89 = .ok (.iinc 1 1, 3) := by decide +kernel
theorem d_X_ring_92 : decode y_X_ring.2.1 92 = .ok (.goto (-90), 3) := by decide +kernel
theorem d_X_ring_95 : decode y_X_ring.2.1 95 = .ok (.aload_n 0, 1) := by decide +kernel
theorem d_X_ring_96 : decode y_X_ring.2.1 96 = .ok (.aload_n 0, 1) := by decide +kernel
theorem d_X_ring_97 : decode y_X_ring.2.1 97 = .ok (.getfield 229, 3) := by decide +kernel
theorem d_X_ring_100 : decode y_X_ring.2.1 100 = .ok (.invokevirtual 293, 3) := by decide +kernel
theorem d_X_ring_103 : decode y_X_ring.2.1 103 = .ok (.ireturn, 1) := by decide +kernel
theorem d_X_tellRing_0 : decode y_X_tellRing.2.1 0 = .ok (.iconst 0, 1) := by decide +kernel
theorem d_X_tellRing_1 : decode y_X_tellRing.2.1 1 = .ok (.istore_n 2, 1) := by decide +kernel
theorem d_X_tellRing_2 : decode y_X_tellRing.2.1 2 = .ok (.iconst 0, 1) := by decide +kernel
theorem d_X_tellRing_3 : decode y_X_tellRing.2.1 3 = .ok (.istore_n 3, 1) := by decide +kernel
theorem d_X_tellRing_4 : decode y_X_tellRing.2.1 4 = .ok (.iconst 0, 1) := by decide +kernel
theorem d_X_tellRing_5 : decode y_X_tellRing.2.1 5 = .ok (.istore 4, 2) := by decide +kernel
theorem d_X_tellRing_7 : decode y_X_tellRing.2.1 7 = .ok (.iload 4, 2) := by decide +kernel
theorem d_X_tellRing_9 : decode y_X_tellRing.2.1 9 = .ok (.iload_n 1, 1) := by decide +kernel
theorem d_X_tellRing_10 : decode y_X_tellRing.2.1 10 = .ok (.if_icmp .ge 39, 3) := by decide +kernel
theorem d_X_tellRing_13 : decode y_X_tellRing.2.1 13 = .ok (.aload_n 0, 1) := by decide +kernel
theorem d_X_tellRing_14 : decode y_X_tellRing.2.1 14 = .ok (.iload 4, 2) := by decide +kernel
theorem d_X_tellRing_16 : decode y_X_tellRing.2.1 16 = .ok (.iload_n 1, 1) := by decide +kernel
theorem d_X_tellRing_17 : decode y_X_tellRing.2.1 17 = .ok (.invokevirtual 296, 3) := by decide +kernel
theorem d_X_tellRing_20 : decode y_X_tellRing.2.1 20 = .ok (.istore 5, 2) := by decide +kernel
theorem d_X_tellRing_22 : decode y_X_tellRing.2.1 22 = .ok (.iload 5, 2) := by decide +kernel
theorem d_X_tellRing_24 : decode y_X_tellRing.2.1 24 = .ok (.ifCond .le 19, 3) := by decide +kernel
theorem d_X_tellRing_27 : decode y_X_tellRing.2.1 27 = .ok (.iload_n 2, 1) := by decide +kernel
theorem d_X_tellRing_28 : decode y_X_tellRing.2.1 28 = .ok (.ifCond .eq 9, 3) := by decide +kernel
theorem d_X_tellRing_31 : decode y_X_tellRing.2.1 31 = .ok (.iload 5, 2) := by decide +kernel
theorem d_X_tellRing_33 : decode y_X_tellRing.2.1 33 = .ok (.iload_n 2, 1) := by decide +kernel
theorem d_X_tellRing_34 : decode y_X_tellRing.2.1 34 = .ok (.if_icmp .ge 9, 3) := by decide +kernel
theorem d_X_tellRing_37 : decode y_X_tellRing.2.1 37 = .ok (.iload 5, 2) := by decide +kernel
theorem d_X_tellRing_39 : decode y_X_tellRing.2.1 39 = .ok (.istore_n 2, 1) := by decide +kernel
theorem d_X_tellRing_40 : decode y_X_tellRing.2.1 40 = .ok (.iload 4, 2) := by decide +kernel
theorem d_X_tellRing_42 : decode y_X_tellRing.2.1 42 = .ok (.istore_n 3, 1) := by decide +kernel
theorem d_X_tellRing_43 : decode y_X_tellRing.2.1 43 = .ok (.iinc 4 1, 3) := by decide +kernel
theorem d_X_tellRing_46 : decode y_X_tellRing.2.1 46 = .ok (.goto (-39), 3) := by decide +kernel
theorem d_X_tellRing_49 : decode y_X_tellRing.2.1 49 = .ok (.iload_n 2, 1) := by decide +kernel
theorem d_X_tellRing_50 : decode y_X_tellRing.2.1 50 = .ok (.ifCond .ne 5, 3) := by decide +kernel
theorem d_X_tellRing_53 : decode y_X_tellRing.2.1 53 = .ok (.iconst 0, 1) := by decide +kernel
theorem d_X_tellRing_54 : decode y_X_tellRing.2.1 54 = .ok (.ireturn, 1) := by decide +kernel
theorem d_X_tellRing_55 : decode y_X_tellRing.2.1 55 = .ok (.aload_n 0, 1) := by decide +kernel
theorem d_X_tellRing_56 : decode y_X_tellRing.2.1 56 = .ok (.iload_n 3, 1) := by decide +kernel
theorem d_X_tellRing_57 : decode y_X_tellRing.2.1 57 = .ok (.iload_n 1, 1) := by decide +kernel
theorem d_X_tellRing_58 : decode y_X_tellRing.2.1 58 = .ok (.invokevirtual 296, 3) := by decide +kernel
theorem d_X_tellRing_61 : decode y_X_tellRing.2.1 61 = .ok (.pop, 1) := by decide +kernel
theorem d_X_tellRing_62 : decode y_X_tellRing.2.1 62 = .ok (.aload_n 0, 1) := by decide +kernel
theorem d_X_tellRing_63 : decode y_X_tellRing.2.1 63 = .ok (.iconst 0, 1) := by decide +kernel
theorem d_X_tellRing_64 : decode y_X_tellRing.2.1 64 = .ok (.putfield 209, 3) := by decide +kernel
theorem d_X_tellRing_67 : decode y_X_tellRing.2.1 67 = .ok (.iload_n 3, 1) := by decide +kernel
theorem d_X_tellRing_68 : decode y_X_tellRing.2.1 68 = .ok (.istore 4, 2) := by decide +kernel
theorem d_X_tellRing_70 : decode y_X_tellRing.2.1 70 = .ok (.iload_n 2, 1) := by decide +kernel
theorem d_X_tellRing_71 : decode y_X_tellRing.2.1 71 = .ok (.istore 5, 2) := by decide +kernel
theorem d_X_tellRing_73 : decode y_X_tellRing.2.1 73 = .ok (.iload 5, 2) := by decide +kernel
theorem d_X_tellRing_75 : decode y_X_tellRing.2.1 75 = .ok (.ifCond .le 43, 3) := by decide +kernel
theorem d_X_tellRing_78 : decode y_X_tellRing.2.1 78 = .ok (.iload 4, 2) := by decide +kernel
theorem d_X_tellRing_80 : decode y_X_tellRing.2.1 80 = .ok (.iconst (-1), 1) := by decide +kernel
theorem d_X_tellRing_81 : decode y_X_tellRing.2.1 81 = .ok (.if_icmp .eq 37, 3) := by decide +kernel
theorem d_X_tellRing_84 : decode y_X_tellRing.2.1 84 = .ok (.aload_n 0, 1) := by decide +kernel
theorem d_X_tellRing_85 : decode y_X_tellRing.2.1 85 = .ok (.iload 4, 2) := by decide +kernel
theorem d_X_tellRing_87 : decode y_X_tellRing.2.1 87 = .ok (.invokevirtual 215, 3) := by decide +kernel
theorem d_X_tellRing_90 : decode y_X_tellRing.2.1 90 = .ok (.aload_n 0, 1) := by decide +kernel
theorem d_X_tellRing_91 : decode y_X_tellRing.2.1 91 = .ok (.getfield 72, 3) := by decide +kernel
theorem d_X_tellRing_94 : decode y_X_tellRing.2.1 94 = .ok (.iload 4, 2) := by decide +kernel
theorem d_X_tellRing_96 : decode y_X_tellRing.2.1 96 = .ok (.iaload, 1) := by decide +kernel
theorem d_X_tellRing_97 : decode y_X_tellRing.2.1 97 = .ok (.aload_n 0, 1) := by decide +kernel
theorem d_X_tellRing_98 : decode y_X_tellRing.2.1 98 = .ok (.getfield 75, 3) := by decide +kernel
theorem d_X_tellRing_101 : decode y_X_tellRing.2.1 101 = .ok (.iload 5, 2) := by decide +kernel
theorem d_X_tellRing_103 : decode y_X_tellRing.2.1 103 = .ok (.iconst 1, 1) := by decide +kernel
theorem d_X_tellRing_104 : decode y_X_tellRing.2.1 104 = .ok (.isub, 1) := by decide +kernel
theorem d_X_tellRing_105 : decode y_X_tellRing.2.1 105 = .ok (.iaload, 1) := by decide +kernel
theorem d_X_tellRing_106 : decode y_X_tellRing.2.1 106 = .ok (.iand, 1) := by decide +kernel
theorem d_X_tellRing_107 : decode y_X_tellRing.2.1 107 = .ok (.invokestatic 276, 3) := by decide +kernel
theorem d_X_tellRing_110 : decode y_X_tellRing.2.1 110 = .ok (.istore 4, 2) := by decide +kernel
theorem d_X_tellRing_112 : decode y_X_tellRing.2.1 112 = .ok (.iinc 5 (-1), 3) := by decide +kernel
theorem d_X_tellRing_115 : decode y_X_tellRing.2.1 115 = .ok (.goto (-42), 3) := by decide +kernel
theorem d_X_tellRing_118 : decode y_X_tellRing.2.1 118 = .ok (.iload_n 2, 1) := by decide +kernel
theorem d_X_tellRing_119 : decode y_X_tellRing.2.1 119 = .ok (.ireturn, 1) := by decide +kernel
theorem d_X_ringFrom_0 : decode y_X_ringFrom.2.1 0 = .ok (.aload_n 0, 1) := by decide +kernel
theorem d_X_ringFrom_1 : decode y_X_ringFrom.2.1 1 = .ok (.getfield 75, 3) := by decide +kernel
theorem d_X_ringFrom_4 : decode y_X_ringFrom.2.1 4 = .ok (.iconst 0, 1) := by decide +kernel
theorem d_X_ringFrom_5 : decode y_X_ringFrom.2.1 5 = .ok (.iconst 1, 1) := by decide +kernel
theorem d_X_ringFrom_6 : decode y_X_ringFrom.2.1 6 = .ok (.iload_n 1, 1) := by decide +kernel
theorem d_X_ringFrom_7 : decode y_X_ringFrom.2.1 7 = .ok (.ishl, 1) := by decide +kernel
theorem d_X_ringFrom_8 : decode y_X_ringFrom.2.1 8 = .ok (.iastore, 1) := by decide +kernel
theorem d_X_ringFrom_9 : decode y_X_ringFrom.2.1 9 = .ok (.iconst 1, 1) := by decide +kernel
theorem d_X_ringFrom_10 : decode y_X_ringFrom.2.1 10 = .ok (.istore_n 3, 1) := by decide +kernel
theorem d_X_ringFrom_11 : decode y_X_ringFrom.2.1 11 = .ok (.iload_n 3, 1) := by decide +kernel
theorem d_X_ringFrom_12 : decode y_X_ringFrom.2.1 12 = .ok (.iload_n 2, 1) := by decide +kernel
theorem d_X_ringFrom_13 : decode y_X_ringFrom.2.1 13 = .ok (.if_icmp .gt 74, 3) := by decide +kernel
theorem d_X_ringFrom_16 : decode y_X_ringFrom.2.1 16 = .ok (.iconst 0, 1) := by decide +kernel
theorem d_X_ringFrom_17 : decode y_X_ringFrom.2.1 17 = .ok (.istore 4, 2) := by decide +kernel
theorem d_X_ringFrom_19 : decode y_X_ringFrom.2.1 19 = .ok (.iload_n 1, 1) := by decide +kernel
theorem d_X_ringFrom_20 : decode y_X_ringFrom.2.1 20 = .ok (.istore 5, 2) := by decide +kernel
theorem d_X_ringFrom_22 : decode y_X_ringFrom.2.1 22 = .ok (.iload 5, 2) := by decide +kernel
theorem d_X_ringFrom_24 : decode y_X_ringFrom.2.1 24 = .ok (.iload_n 2, 1) := by decide +kernel
theorem d_X_ringFrom_25 : decode y_X_ringFrom.2.1 25 = .ok (.if_icmp .ge 37, 3) := by decide +kernel
theorem d_X_ringFrom_28 : decode y_X_ringFrom.2.1 28 = .ok (.aload_n 0, 1) := by decide +kernel
theorem d_X_ringFrom_29 : decode y_X_ringFrom.2.1 29 = .ok (.getfield 72, 3) := by decide +kernel
theorem d_X_ringFrom_32 : decode y_X_ringFrom.2.1 32 = .ok (.iload 5, 2) := by decide +kernel
theorem d_X_ringFrom_34 : decode y_X_ringFrom.2.1 34 = .ok (.iaload, 1) := by decide +kernel
theorem d_X_ringFrom_35 : decode y_X_ringFrom.2.1 35 = .ok (.aload_n 0, 1) := by decide +kernel
theorem d_X_ringFrom_36 : decode y_X_ringFrom.2.1 36 = .ok (.getfield 75, 3) := by decide +kernel
theorem d_X_ringFrom_39 : decode y_X_ringFrom.2.1 39 = .ok (.iload_n 3, 1) := by decide +kernel
theorem d_X_ringFrom_40 : decode y_X_ringFrom.2.1 40 = .ok (.iconst 1, 1) := by decide +kernel
theorem d_X_ringFrom_41 : decode y_X_ringFrom.2.1 41 = .ok (.isub, 1) := by decide +kernel
theorem d_X_ringFrom_42 : decode y_X_ringFrom.2.1 42 = .ok (.iaload, 1) := by decide +kernel
theorem d_X_ringFrom_43 : decode y_X_ringFrom.2.1 43 = .ok (.iand, 1) := by decide +kernel
theorem d_X_ringFrom_44 : decode y_X_ringFrom.2.1 44 = .ok (.ifCond .eq 12, 3) := by decide +kernel
theorem d_X_ringFrom_47 : decode y_X_ringFrom.2.1 47 = .ok (.iload 4, 2) := by decide +kernel
theorem d_X_ringFrom_49 : decode y_X_ringFrom.2.1 49 = .ok (.iconst 1, 1) := by decide +kernel
theorem d_X_ringFrom_50 : decode y_X_ringFrom.2.1 50 = .ok (.iload 5, 2) := by decide +kernel
theorem d_X_ringFrom_52 : decode y_X_ringFrom.2.1 52 = .ok (.ishl, 1) := by decide +kernel
theorem d_X_ringFrom_53 : decode y_X_ringFrom.2.1 53 = .ok (.ior, 1) := by decide +kernel
theorem d_X_ringFrom_54 : decode y_X_ringFrom.2.1 54 = .ok (.istore 4, 2) := by decide +kernel
theorem d_X_ringFrom_56 : decode y_X_ringFrom.2.1 56 = .ok (.iinc 5 1, 3) := by decide +kernel
theorem d_X_ringFrom_59 : decode y_X_ringFrom.2.1 59 = .ok (.goto (-37), 3) := by decide +kernel
theorem d_X_ringFrom_62 : decode y_X_ringFrom.2.1 62 = .ok (.aload_n 0, 1) := by decide +kernel
theorem d_X_ringFrom_63 : decode y_X_ringFrom.2.1 63 = .ok (.getfield 75, 3) := by decide +kernel
theorem d_X_ringFrom_66 : decode y_X_ringFrom.2.1 66 = .ok (.iload_n 3, 1) := by decide +kernel
theorem d_X_ringFrom_67 : decode y_X_ringFrom.2.1 67 = .ok (.iload 4, 2) := by decide +kernel
theorem d_X_ringFrom_69 : decode y_X_ringFrom.2.1 69 = .ok (.iastore, 1) := by decide +kernel
theorem d_X_ringFrom_70 : decode y_X_ringFrom.2.1 70 = .ok (.iload 4, 2) := by decide +kernel
theorem d_X_ringFrom_72 : decode y_X_ringFrom.2.1 72 = .ok (.iload_n 1, 1) := by decide +kernel
theorem d_X_ringFrom_73 : decode y_X_ringFrom.2.1 73 = .ok (.ishr, 1) := by decide +kernel
theorem d_X_ringFrom_74 : decode y_X_ringFrom.2.1 74 = .ok (.iconst 1, 1) := by decide +kernel
theorem d_X_ringFrom_75 : decode y_X_ringFrom.2.1 75 = .ok (.iand, 1) := by decide +kernel
theorem d_X_ringFrom_76 : decode y_X_ringFrom.2.1 76 = .ok (.ifCond .eq 5, 3) := by decide +kernel
theorem d_X_ringFrom_79 : decode y_X_ringFrom.2.1 79 = .ok (.iload_n 3, 1) := by decide +kernel
theorem d_X_ringFrom_80 : decode y_X_ringFrom.2.1 80 = .ok (.ireturn, 1) := by decide +kernel
theorem d_X_ringFrom_81 : decode y_X_ringFrom.2.1 81 = .ok (.iinc 3 1, 3) := by decide +kernel
theorem d_X_ringFrom_84 : decode y_X_ringFrom.2.1 84 = .ok (.goto (-73), 3) := by decide +kernel
theorem d_X_ringFrom_87 : decode y_X_ringFrom.2.1 87 = .ok (.iconst 0, 1) := by decide +kernel
theorem d_X_ringFrom_88 : decode y_X_ringFrom.2.1 88 = .ok (.ireturn, 1) := by decide +kernel
theorem d_X_needs_0 : decode y_X_needs.2.1 0 = .ok (.aload_n 0, 1) := by decide +kernel
theorem d_X_needs_1 : decode y_X_needs.2.1 1 = .ok (.getfield 19, 3) := by decide +kernel
theorem d_X_needs_4 : decode y_X_needs.2.1 4 = .ok (.iload_n 1, 1) := by decide +kernel
theorem d_X_needs_5 : decode y_X_needs.2.1 5 = .ok (.invokevirtual 92, 3) := by decide +kernel
theorem d_X_needs_8 : decode y_X_needs.2.1 8 = .ok (.ifCond .eq 10, 3) := by decide +kernel
theorem d_X_needs_11 : decode y_X_needs.2.1 11 = .ok (.iload_n 2, 1) := by decide +kernel
theorem d_X_needs_12 : decode y_X_needs.2.1 12 = .ok (.invokestatic 141, 3) := by decide +kernel
theorem d_X_needs_15 : decode y_X_needs.2.1 15 = .ok (.ifCond .ne 5, 3) := by decide +kernel
theorem d_X_needs_18 : decode y_X_needs.2.1 18 = .ok (.iconst (-1), 1) := by decide +kernel
theorem d_X_needs_19 : decode y_X_needs.2.1 19 = .ok (.ireturn, 1) := by decide +kernel
theorem d_X_needs_20 : decode y_X_needs.2.1 20 = .ok (.aload_n 0, 1) := by decide +kernel
theorem d_X_needs_21 : decode y_X_needs.2.1 21 = .ok (.iload_n 1, 1) := by decide +kernel
theorem d_X_needs_22 : decode y_X_needs.2.1 22 = .ok (.iload_n 2, 1) := by decide +kernel
theorem d_X_needs_23 : decode y_X_needs.2.1 23 = .ok (.invokevirtual 299, 3) := by decide +kernel
theorem d_X_needs_26 : decode y_X_needs.2.1 26 = .ok (.aload_n 0, 1) := by decide +kernel
theorem d_X_needs_27 : decode y_X_needs.2.1 27 = .ok (.getfield 33, 3) := by decide +kernel
theorem d_X_needs_30 : decode y_X_needs.2.1 30 = .ok (.getfield 302, 3) := by decide +kernel
theorem d_X_needs_33 : decode y_X_needs.2.1 33 = .ok (.ireturn, 1) := by decide +kernel
theorem d_X_bars_0 : decode y_X_bars.2.1 0 = .ok (.aload_n 0, 1) := by decide +kernel
theorem d_X_bars_1 : decode y_X_bars.2.1 1 = .ok (.getfield 19, 3) := by decide +kernel
theorem d_X_bars_4 : decode y_X_bars.2.1 4 = .ok (.iload_n 1, 1) := by decide +kernel
theorem d_X_bars_5 : decode y_X_bars.2.1 5 = .ok (.invokevirtual 92, 3) := by decide +kernel
theorem d_X_bars_8 : decode y_X_bars.2.1 8 = .ok (.ifCond .eq 10, 3) := by decide +kernel
theorem d_X_bars_11 : decode y_X_bars.2.1 11 = .ok (.iload_n 2, 1) := by decide +kernel
theorem d_X_bars_12 : decode y_X_bars.2.1 12 = .ok (.invokestatic 141, 3) := by decide +kernel
theorem d_X_bars_15 : decode y_X_bars.2.1 15 = .ok (.ifCond .ne 5, 3) := by decide +kernel
theorem d_X_bars_18 : decode y_X_bars.2.1 18 = .ok (.iconst (-1), 1) := by decide +kernel
theorem d_X_bars_19 : decode y_X_bars.2.1 19 = .ok (.ireturn, 1) := by decide +kernel
theorem d_X_bars_20 : decode y_X_bars.2.1 20 = .ok (.aload_n 0, 1) := by decide +kernel
theorem d_X_bars_21 : decode y_X_bars.2.1 21 = .ok (.iload_n 1, 1) := by decide +kernel
theorem d_X_bars_22 : decode y_X_bars.2.1 22 = .ok (.iload_n 2, 1) := by decide +kernel
theorem d_X_bars_23 : decode y_X_bars.2.1 23 = .ok (.invokevirtual 299, 3) := by decide +kernel
theorem d_X_bars_26 : decode y_X_bars.2.1 26 = .ok (.aload_n 0, 1) := by decide +kernel
theorem d_X_bars_27 : decode y_X_bars.2.1 27 = .ok (.getfield 19, 3) := by decide +kernel
theorem d_X_bars_30 : decode y_X_bars.2.1 30 = .ok (.invokevirtual 305, 3) := by decide +kernel
theorem d_X_bars_33 : decode y_X_bars.2.1 33 = .ok (.iconst 1, 1) := by decide +kernel
theorem d_X_bars_34 : decode y_X_bars.2.1 34 = .ok (.iload_n 1, 1) := by decide +kernel
theorem d_X_bars_35 : decode y_X_bars.2.1 35 = .ok (.ishl, 1) := by decide +kernel
theorem d_X_bars_36 : decode y_X_bars.2.1 36 = .ok (.iconst (-1), 1) := by decide +kernel
theorem d_X_bars_37 : decode y_X_bars.2.1 37 = .ok (.ixor, 1) := by decide +kernel
theorem d_X_bars_38 : decode y_X_bars.2.1 38 = .ok (.iand, 1) := by decide +kernel
theorem d_X_bars_39 : decode y_X_bars.2.1 39 = .ok (.aload_n 0, 1) := by decide +kernel
theorem d_X_bars_40 : decode y_X_bars.2.1 40 = .ok (.getfield 33, 3) := by decide +kernel
theorem d_X_bars_43 : decode y_X_bars.2.1 43 = .ok (.getfield 308, 3) := by decide +kernel
theorem d_X_bars_46 : decode y_X_bars.2.1 46 = .ok (.iconst (-1), 1) := by decide +kernel
theorem d_X_bars_47 : decode y_X_bars.2.1 47 = .ok (.ixor, 1) := by decide +kernel
theorem d_X_bars_48 : decode y_X_bars.2.1 48 = .ok (.iand, 1) := by decide +kernel
theorem d_X_bars_49 : decode y_X_bars.2.1 49 = .ok (.ireturn, 1) := by decide +kernel
theorem d_X_least_0 : decode y_X_least.2.1 0 = .ok (.aload_n 0, 1) := by decide +kernel
theorem d_X_least_1 : decode y_X_least.2.1 1 = .ok (.getfield 19, 3) := by decide +kernel
theorem d_X_least_4 : decode y_X_least.2.1 4 = .ok (.iload_n 1, 1) := by decide +kernel
theorem d_X_least_5 : decode y_X_least.2.1 5 = .ok (.invokevirtual 92, 3) := by decide +kernel
theorem d_X_least_8 : decode y_X_least.2.1 8 = .ok (.ifCond .eq 10, 3) := by decide +kernel
theorem d_X_least_11 : decode y_X_least.2.1 11 = .ok (.iload_n 2, 1) := by decide +kernel
theorem d_X_least_12 : decode y_X_least.2.1 12 = .ok (.invokestatic 141, 3) := by decide +kernel
theorem d_X_least_15 : decode y_X_least.2.1 15 = .ok (.ifCond .ne 5, 3) := by decide +kernel
theorem d_X_least_18 : decode y_X_least.2.1 18 = .ok (.iconst (-1), 1) := by decide +kernel
theorem d_X_least_19 : decode y_X_least.2.1 19 = .ok (.ireturn, 1) := by decide +kernel
theorem d_X_least_20 : decode y_X_least.2.1 20 = .ok (.aload_n 0, 1) := by decide +kernel
theorem d_X_least_21 : decode y_X_least.2.1 21 = .ok (.iload_n 1, 1) := by decide +kernel
theorem d_X_least_22 : decode y_X_least.2.1 22 = .ok (.iload_n 2, 1) := by decide +kernel
theorem d_X_least_23 : decode y_X_least.2.1 23 = .ok (.invokevirtual 299, 3) := by decide +kernel
theorem d_X_least_26 : decode y_X_least.2.1 26 = .ok (.aload_n 0, 1) := by decide +kernel
theorem d_X_least_27 : decode y_X_least.2.1 27 = .ok (.getfield 33, 3) := by decide +kernel
theorem d_X_least_30 : decode y_X_least.2.1 30 = .ok (.getfield 311, 3) := by decide +kernel
theorem d_X_least_33 : decode y_X_least.2.1 33 = .ok (.ifCond .ne 6, 3) := by decide +kernel
theorem d_X_least_36 : decode y_X_least.2.1 36 = .ok (.bipush (-2), 2) := by decide +kernel
theorem d_X_least_38 : decode y_X_least.2.1 38 = .ok (.ireturn, 1) := by decide +kernel
theorem d_X_least_39 : decode y_X_least.2.1 39 = .ok (.aload_n 0, 1) := by decide +kernel
theorem d_X_least_40 : decode y_X_least.2.1 40 = .ok (.iconst 0, 1) := by decide +kernel
theorem d_X_least_41 : decode y_X_least.2.1 41 = .ok (.putfield 209, 3) := by decide +kernel
theorem d_X_least_44 : decode y_X_least.2.1 44 = .ok (.aload_n 0, 1) := by decide +kernel
theorem d_X_least_45 : decode y_X_least.2.1 45 = .ok (.aload_n 0, 1) := by decide +kernel
theorem d_X_least_46 : decode y_X_least.2.1 46 = .ok (.getfield 33, 3) := by decide +kernel
theorem d_X_least_49 : decode y_X_least.2.1 49 = .ok (.getfield 314, 3) := by decide +kernel
theorem d_X_least_52 : decode y_X_least.2.1 52 = .ok (.invokevirtual 215, 3) := by decide +kernel
theorem d_X_least_55 : decode y_X_least.2.1 55 = .ok (.aload_n 0, 1) := by decide +kernel
theorem d_X_least_56 : decode y_X_least.2.1 56 = .ok (.aload_n 0, 1) := by decide +kernel
theorem d_X_least_57 : decode y_X_least.2.1 57 = .ok (.getfield 33, 3) := by decide +kernel
theorem d_X_least_60 : decode y_X_least.2.1 60 = .ok (.getfield 311, 3) := by decide +kernel
theorem d_X_least_63 : decode y_X_least.2.1 63 = .ok (.invokevirtual 215, 3) := by decide +kernel
theorem d_X_least_66 : decode y_X_least.2.1 66 = .ok (.aload_n 0, 1) := by decide +kernel
theorem d_X_least_67 : decode y_X_least.2.1 67 = .ok (.getfield 33, 3) := by decide +kernel
theorem d_X_least_70 : decode y_X_least.2.1 70 = .ok (.getfield 317, 3) := by decide +kernel
theorem d_X_least_73 : decode y_X_least.2.1 73 = .ok (.ireturn, 1) := by decide +kernel
theorem d_X_look_0 : decode y_X_look.2.1 0 = .ok (.aload_n 0, 1) := by decide +kernel
theorem d_X_look_1 : decode y_X_look.2.1 1 = .ok (.getfield 19, 3) := by decide +kernel
theorem d_X_look_4 : decode y_X_look.2.1 4 = .ok (.invokevirtual 305, 3) := by decide +kernel
theorem d_X_look_7 : decode y_X_look.2.1 7 = .ok (.iconst 1, 1) := by decide +kernel
theorem d_X_look_8 : decode y_X_look.2.1 8 = .ok (.iload_n 1, 1) := by decide +kernel
theorem d_X_look_9 : decode y_X_look.2.1 9 = .ok (.ishl, 1) := by decide +kernel
theorem d_X_look_10 : decode y_X_look.2.1 10 = .ok (.iconst (-1), 1) := by decide +kernel
theorem d_X_look_11 : decode y_X_look.2.1 11 = .ok (.ixor, 1) := by decide +kernel
theorem d_X_look_12 : decode y_X_look.2.1 12 = .ok (.iand, 1) := by decide +kernel
theorem d_X_look_13 : decode y_X_look.2.1 13 = .ok (.istore_n 3, 1) := by decide +kernel
theorem d_X_look_14 : decode y_X_look.2.1 14 = .ok (.aload_n 0, 1) := by decide +kernel
theorem d_X_look_15 : decode y_X_look.2.1 15 = .ok (.getfield 33, 3) := by decide +kernel
theorem d_X_look_18 : decode y_X_look.2.1 18 = .ok (.iload_n 3, 1) := by decide +kernel
theorem d_X_look_19 : decode y_X_look.2.1 19 = .ok (.invokevirtual 320, 3) := by decide +kernel
theorem d_X_look_22 : decode y_X_look.2.1 22 = .ok (.iconst 0, 1) := by decide +kernel
theorem d_X_look_23 : decode y_X_look.2.1 23 = .ok (.istore 4, 2) := by decide +kernel
theorem d_X_look_25 : decode y_X_look.2.1 25 = .ok (.iload 4, 2) := by decide +kernel
theorem d_X_look_27 : decode y_X_look.2.1 27 = .ok (.iload_n 3, 1) := by decide +kernel
theorem d_X_look_28 : decode y_X_look.2.1 28 = .ok (.if_icmp .gt 61, 3) := by decide +kernel
theorem d_X_look_31 : decode y_X_look.2.1 31 = .ok (.iload 4, 2) := by decide +kernel
theorem d_X_look_33 : decode y_X_look.2.1 33 = .ok (.iload_n 3, 1) := by decide +kernel
theorem d_X_look_34 : decode y_X_look.2.1 34 = .ok (.iconst (-1), 1) := by decide +kernel
theorem d_X_look_35 : decode y_X_look.2.1 35 = .ok (.ixor, 1) := by decide +kernel
theorem d_X_look_36 : decode y_X_look.2.1 36 = .ok (.iand, 1) := by decide +kernel
theorem d_X_look_37 : decode y_X_look.2.1 37 = .ok (.ifCond .ne 46, 3) := by decide +kernel
theorem d_X_look_40 : decode y_X_look.2.1 40 = .ok (.iload 4, 2) := by decide +kernel
theorem d_X_look_42 : decode y_X_look.2.1 42 = .ok (.invokestatic 271, 3) := by decide +kernel
theorem d_X_look_45 : decode y_X_look.2.1 45 = .ok (.aload_n 0, 1) := by decide +kernel
theorem d_X_look_46 : decode y_X_look.2.1 46 = .ok (.getfield 19, 3) := by decide +kernel
theorem d_X_look_49 : decode y_X_look.2.1 49 = .ok (.getfield 144, 3) := by decide +kernel
theorem d_X_look_52 : decode y_X_look.2.1 52 = .ok (.iload_n 2, 1) := by decide +kernel
theorem d_X_look_53 : decode y_X_look.2.1 53 = .ok (.iaload, 1) := by decide +kernel
theorem d_X_look_54 : decode y_X_look.2.1 54 = .ok (.if_icmp .ge 29, 3) := by decide +kernel
theorem d_X_look_57 : decode y_X_look.2.1 57 = .ok (.aload_n 0, 1) := by decide +kernel
theorem d_X_look_58 : decode y_X_look.2.1 58 = .ok (.getfield 19, 3) := by decide +kernel
theorem d_X_look_61 : decode y_X_look.2.1 61 = .ok (.iload_n 2, 1) := by decide +kernel
theorem d_X_look_62 : decode y_X_look.2.1 62 = .ok (.iload 4, 2) := by decide +kernel
theorem d_X_look_64 : decode y_X_look.2.1 64 = .ok (.invokevirtual 322, 3) := by decide +kernel
theorem d_X_look_67 : decode y_X_look.2.1 67 = .ok (.iload_n 1, 1) := by decide +kernel
theorem d_X_look_68 : decode y_X_look.2.1 68 = .ok (.ishr, 1) := by decide +kernel
theorem d_X_look_69 : decode y_X_look.2.1 69 = .ok (.iconst 1, 1) := by decide +kernel
theorem d_X_look_70 : decode y_X_look.2.1 70 = .ok (.iand, 1) := by decide +kernel
theorem d_X_look_71 : decode y_X_look.2.1 71 = .ok (.ifCond .eq 12, 3) := by decide +kernel
theorem d_X_look_74 : decode y_X_look.2.1 74 = .ok (.aload_n 0, 1) := by decide +kernel
theorem d_X_look_75 : decode y_X_look.2.1 75 = .ok (.getfield 33, 3) := by decide +kernel
theorem d_X_look_78 : decode y_X_look.2.1 78 = .ok (.iload 4, 2) := by decide +kernel
theorem d_X_look_80 : decode y_X_look.2.1 80 = .ok (.invokevirtual 325, 3) := by decide +kernel
theorem d_X_look_83 : decode y_X_look.2.1 83 = .ok (.iinc 4 1, 3) := by decide +kernel
theorem d_X_look_86 : decode y_X_look.2.1 86 = .ok (.goto (-61), 3) := by decide +kernel
theorem d_X_look_89 : decode y_X_look.2.1 89 = .ok (.return_, 1) := by decide +kernel
theorem d_X_knot_0 : decode y_X_knot.2.1 0 = .ok (.iload_n 1, 1) := by decide +kernel
theorem d_X_knot_1 : decode y_X_knot.2.1 1 = .ok (.invokestatic 141, 3) := by decide +kernel
theorem d_X_knot_4 : decode y_X_knot.2.1 4 = .ok (.ifCond .ne 5, 3) := by decide +kernel
theorem d_X_knot_7 : decode y_X_knot.2.1 7 = .ok (.iconst (-1), 1) := by decide +kernel
theorem d_X_knot_8 : decode y_X_knot.2.1 8 = .ok (.ireturn, 1) := by decide +kernel
theorem d_X_knot_9 : decode y_X_knot.2.1 9 = .ok (.iconst 0, 1) := by decide +kernel
theorem d_X_knot_10 : decode y_X_knot.2.1 10 = .ok (.istore_n 2, 1) := by decide +kernel
theorem d_X_knot_11 : decode y_X_knot.2.1 11 = .ok (.iload_n 2, 1) := by decide +kernel
theorem d_X_knot_12 : decode y_X_knot.2.1 12 = .ok (.aload_n 0, 1) := by decide +kernel
theorem d_X_knot_13 : decode y_X_knot.2.1 13 = .ok (.getfield 19, 3) := by decide +kernel
theorem d_X_knot_16 : decode y_X_knot.2.1 16 = .ok (.getfield 88, 3) := by decide +kernel
theorem d_X_knot_19 : decode y_X_knot.2.1 19 = .ok (.if_icmp .ge 44, 3) := by decide +kernel
theorem d_X_knot_22 : decode y_X_knot.2.1 22 = .ok (.aload_n 0, 1) := by decide +kernel
theorem d_X_knot_23 : decode y_X_knot.2.1 23 = .ok (.iload_n 2, 1) := by decide +kernel
theorem d_X_knot_24 : decode y_X_knot.2.1 24 = .ok (.iload_n 1, 1) := by decide +kernel
theorem d_X_knot_25 : decode y_X_knot.2.1 25 = .ok (.invokevirtual 299, 3) := by decide +kernel
theorem d_X_knot_28 : decode y_X_knot.2.1 28 = .ok (.aload_n 0, 1) := by decide +kernel
theorem d_X_knot_29 : decode y_X_knot.2.1 29 = .ok (.getfield 72, 3) := by decide +kernel
theorem d_X_knot_32 : decode y_X_knot.2.1 32 = .ok (.iload_n 2, 1) := by decide +kernel
theorem d_X_knot_33 : decode y_X_knot.2.1 33 = .ok (.aload_n 0, 1) := by decide +kernel
theorem d_X_knot_34 : decode y_X_knot.2.1 34 = .ok (.getfield 33, 3) := by decide +kernel
theorem d_X_knot_37 : decode y_X_knot.2.1 37 = .ok (.getfield 311, 3) := by decide +kernel
theorem d_X_knot_40 : decode y_X_knot.2.1 40 = .ok (.ifCond .ne 9, 3) := by decide +kernel
theorem d_X_knot_43 : decode y_X_knot.2.1 43 = .ok (.iconst 1, 1) := by decide +kernel
theorem d_X_knot_44 : decode y_X_knot.2.1 44 = .ok (.iload_n 2, 1) := by decide +kernel
theorem d_X_knot_45 : decode y_X_knot.2.1 45 = .ok (.ishl, 1) := by decide +kernel
theorem d_X_knot_46 : decode y_X_knot.2.1 46 = .ok (.goto 10, 3) := by decide +kernel
theorem d_X_knot_49 : decode y_X_knot.2.1 49 = .ok (.aload_n 0, 1) := by decide +kernel
theorem d_X_knot_50 : decode y_X_knot.2.1 50 = .ok (.getfield 33, 3) := by decide +kernel
theorem d_X_knot_53 : decode y_X_knot.2.1 53 = .ok (.getfield 302, 3) := by decide +kernel
theorem d_X_knot_56 : decode y_X_knot.2.1 56 = .ok (.iastore, 1) := by decide +kernel
theorem d_X_knot_57 : decode y_X_knot.2.1 57 = .ok (.iinc 2 1, 3) := by decide +kernel
theorem d_X_knot_60 : decode y_X_knot.2.1 60 = .ok (.goto (-49), 3) := by decide +kernel
theorem d_X_knot_63 : decode y_X_knot.2.1 63 = .ok (.aload_n 0, 1) := by decide +kernel
theorem d_X_knot_64 : decode y_X_knot.2.1 64 = .ok (.aload_n 0, 1) := by decide +kernel
theorem d_X_knot_65 : decode y_X_knot.2.1 65 = .ok (.getfield 19, 3) := by decide +kernel
theorem d_X_knot_68 : decode y_X_knot.2.1 68 = .ok (.getfield 88, 3) := by decide +kernel
theorem d_X_knot_71 : decode y_X_knot.2.1 71 = .ok (.invokevirtual 293, 3) := by decide +kernel
theorem d_X_knot_74 : decode y_X_knot.2.1 74 = .ok (.ireturn, 1) := by decide +kernel
theorem d_X_hold_0 : decode y_X_hold.2.1 0 = .ok (.iload_n 1, 1) := by decide +kernel
theorem d_X_hold_1 : decode y_X_hold.2.1 1 = .ok (.invokestatic 141, 3) := by decide +kernel
theorem d_X_hold_4 : decode y_X_hold.2.1 4 = .ok (.ifCond .ne 5, 3) := by decide +kernel
theorem d_X_hold_7 : decode y_X_hold.2.1 7 = .ok (.iconst (-1), 1) := by decide +kernel
theorem d_X_hold_8 : decode y_X_hold.2.1 8 = .ok (.ireturn, 1) := by decide +kernel
theorem d_X_hold_9 : decode y_X_hold.2.1 9 = .ok (.iconst 0, 1) := by decide +kernel
theorem d_X_hold_10 : decode y_X_hold.2.1 10 = .ok (.istore_n 2, 1) := by decide +kernel
theorem d_X_hold_11 : decode y_X_hold.2.1 11 = .ok (.iconst 0, 1) := by decide +kernel
theorem d_X_hold_12 : decode y_X_hold.2.1 12 = .ok (.istore_n 3, 1) := by decide +kernel
theorem d_X_hold_13 : decode y_X_hold.2.1 13 = .ok (.iconst 0, 1) := by decide +kernel
theorem d_X_hold_14 : decode y_X_hold.2.1 14 = .ok (.istore 4, 2) := by decide +kernel
theorem d_X_hold_16 : decode y_X_hold.2.1 16 = .ok (.iload 4, 2) := by decide +kernel
theorem d_X_hold_18 : decode y_X_hold.2.1 18 = .ok (.aload_n 0, 1) := by decide +kernel
theorem d_X_hold_19 : decode y_X_hold.2.1 19 = .ok (.getfield 19, 3) := by decide +kernel
theorem d_X_hold_22 : decode y_X_hold.2.1 22 = .ok (.invokevirtual 305, 3) := by decide +kernel
theorem d_X_hold_25 : decode y_X_hold.2.1 25 = .ok (.if_icmp .gt 62, 3) := by decide +kernel
theorem d_X_hold_28 : decode y_X_hold.2.1 28 = .ok (.iload 4, 2) := by decide +kernel
theorem d_X_hold_30 : decode y_X_hold.2.1 30 = .ok (.invokestatic 271, 3) := by decide +kernel
theorem d_X_hold_33 : decode y_X_hold.2.1 33 = .ok (.aload_n 0, 1) := by decide +kernel
theorem d_X_hold_34 : decode y_X_hold.2.1 34 = .ok (.getfield 19, 3) := by decide +kernel
theorem d_X_hold_37 : decode y_X_hold.2.1 37 = .ok (.getfield 144, 3) := by decide +kernel
theorem d_X_hold_40 : decode y_X_hold.2.1 40 = .ok (.iload_n 1, 1) := by decide +kernel
theorem d_X_hold_41 : decode y_X_hold.2.1 41 = .ok (.iaload, 1) := by decide +kernel
theorem d_X_hold_42 : decode y_X_hold.2.1 42 = .ok (.if_icmp .gt 39, 3) := by decide +kernel
theorem d_X_hold_45 : decode y_X_hold.2.1 45 = .ok (.iload 4, 2) := by decide +kernel
theorem d_X_hold_47 : decode y_X_hold.2.1 47 = .ok (.aload_n 0, 1) := by decide +kernel
theorem d_X_hold_48 : decode y_X_hold.2.1 48 = .ok (.getfield 19, 3) := by decide +kernel
theorem d_X_hold_51 : decode y_X_hold.2.1 51 = .ok (.iload_n 1, 1) := by decide +kernel
theorem d_X_hold_52 : decode y_X_hold.2.1 52 = .ok (.iload 4, 2) := by decide +kernel
theorem d_X_hold_54 : decode y_X_hold.2.1 54 = .ok (.invokevirtual 322, 3) := by decide +kernel
theorem d_X_hold_57 : decode y_X_hold.2.1 57 = .ok (.iconst (-1), 1) := by decide +kernel
theorem d_X_hold_58 : decode y_X_hold.2.1 58 = .ok (.ixor, 1) := by decide +kernel
theorem d_X_hold_59 : decode y_X_hold.2.1 59 = .ok (.iand, 1) := by decide +kernel
theorem d_X_hold_60 : decode y_X_hold.2.1 60 = .ok (.ifCond .ne 21, 3) := by decide +kernel
theorem d_X_hold_63 : decode y_X_hold.2.1 63 = .ok (.iinc 2 1, 3) := by decide +kernel
theorem d_X_hold_66 : decode y_X_hold.2.1 66 = .ok (.iload 4, 2) := by decide +kernel
theorem d_X_hold_68 : decode y_X_hold.2.1 68 = .ok (.invokestatic 271, 3) := by decide +kernel
theorem d_X_hold_71 : decode y_X_hold.2.1 71 = .ok (.iload_n 3, 1) := by decide +kernel
theorem d_X_hold_72 : decode y_X_hold.2.1 72 = .ok (.invokestatic 271, 3) := by decide +kernel
theorem d_X_hold_75 : decode y_X_hold.2.1 75 = .ok (.if_icmp .le 6, 3) := by decide +kernel
theorem d_X_hold_78 : decode y_X_hold.2.1 78 = .ok (.iload 4, 2) := by decide +kernel
theorem d_X_hold_80 : decode y_X_hold.2.1 80 = .ok (.istore_n 3, 1) := by decide +kernel
theorem d_X_hold_81 : decode y_X_hold.2.1 81 = .ok (.iinc 4 1, 3) := by decide +kernel
theorem d_X_hold_84 : decode y_X_hold.2.1 84 = .ok (.goto (-68), 3) := by decide +kernel
theorem d_X_hold_87 : decode y_X_hold.2.1 87 = .ok (.aload_n 0, 1) := by decide +kernel
theorem d_X_hold_88 : decode y_X_hold.2.1 88 = .ok (.iconst 0, 1) := by decide +kernel
theorem d_X_hold_89 : decode y_X_hold.2.1 89 = .ok (.putfield 209, 3) := by decide +kernel
theorem d_X_hold_92 : decode y_X_hold.2.1 92 = .ok (.aload_n 0, 1) := by decide +kernel
theorem d_X_hold_93 : decode y_X_hold.2.1 93 = .ok (.iload_n 3, 1) := by decide +kernel
theorem d_X_hold_94 : decode y_X_hold.2.1 94 = .ok (.invokevirtual 215, 3) := by decide +kernel
theorem d_X_hold_97 : decode y_X_hold.2.1 97 = .ok (.iload_n 2, 1) := by decide +kernel
theorem d_X_hold_98 : decode y_X_hold.2.1 98 = .ok (.ireturn, 1) := by decide +kernel
theorem d_X_comes_0 : decode y_X_comes.2.1 0 = .ok (.iload_n 1, 1) := by decide +kernel
theorem d_X_comes_1 : decode y_X_comes.2.1 1 = .ok (.invokestatic 141, 3) := by decide +kernel
theorem d_X_comes_4 : decode y_X_comes.2.1 4 = .ok (.ifCond .ne 5, 3) := by decide +kernel
theorem d_X_comes_7 : decode y_X_comes.2.1 7 = .ok (.iconst (-1), 1) := by decide +kernel
theorem d_X_comes_8 : decode y_X_comes.2.1 8 = .ok (.ireturn, 1) := by decide +kernel
theorem d_X_comes_9 : decode y_X_comes.2.1 9 = .ok (.aload_n 0, 1) := by decide +kernel
theorem d_X_comes_10 : decode y_X_comes.2.1 10 = .ok (.iload_n 1, 1) := by decide +kernel
theorem d_X_comes_11 : decode y_X_comes.2.1 11 = .ok (.invokevirtual 328, 3) := by decide +kernel
theorem d_X_comes_14 : decode y_X_comes.2.1 14 = .ok (.aload_n 0, 1) := by decide +kernel
theorem d_X_comes_15 : decode y_X_comes.2.1 15 = .ok (.invokevirtual 331, 3) := by decide +kernel
theorem d_X_comes_18 : decode y_X_comes.2.1 18 = .ok (.ireturn, 1) := by decide +kernel
theorem d_X_searchTable_0 : decode y_X_searchTable.2.1 0 = .ok (.aload_n 0, 1) := by decide +kernel
theorem d_X_searchTable_1 : decode y_X_searchTable.2.1 1 = .ok (.getfield 26, 3) := by decide +kernel
theorem d_X_searchTable_4 : decode y_X_searchTable.2.1 4 = .ok (.invokevirtual 334, 3) := by decide +kernel
theorem d_X_searchTable_7 : decode y_X_searchTable.2.1 7 = .ok (.aload_n 0, 1) := by decide +kernel
theorem d_X_searchTable_8 : decode y_X_searchTable.2.1 8 = .ok (.getfield 26, 3) := by decide +kernel
theorem d_X_searchTable_11 : decode y_X_searchTable.2.1 11 = .ok (.lconst 0, 1) := by decide +kernel
theorem d_X_searchTable_12 : decode y_X_searchTable.2.1 12 = .ok (.invokevirtual 335, 3) := by decide +kernel
theorem d_X_searchTable_15 : decode y_X_searchTable.2.1 15 = .ok (.aload_n 0, 1) := by decide +kernel
theorem d_X_searchTable_16 : decode y_X_searchTable.2.1 16 = .ok (.getfield 26, 3) := by decide +kernel
theorem d_X_searchTable_19 : decode y_X_searchTable.2.1 19 = .ok (.aload_n 0, 1) := by decide +kernel
theorem d_X_searchTable_20 : decode y_X_searchTable.2.1 20 = .ok (.getfield 19, 3) := by decide +kernel
theorem d_X_searchTable_23 : decode y_X_searchTable.2.1 23 = .ok (.iload_n 1, 1) := by decide +kernel
theorem d_X_searchTable_24 : decode y_X_searchTable.2.1 24 = .ok (.invokevirtual 339, 3) := by decide +kernel
theorem d_X_searchTable_27 : decode y_X_searchTable.2.1 27 = .ok (.pop, 1) := by decide +kernel
theorem d_X_searchTable_28 : decode y_X_searchTable.2.1 28 = .ok (.return_, 1) := by decide +kernel
theorem d_X_tellReach_0 : decode y_X_tellReach.2.1 0 = .ok (.aload_n 0, 1) := by decide +kernel
theorem d_X_tellReach_1 : decode y_X_tellReach.2.1 1 = .ok (.iconst 0, 1) := by decide +kernel
theorem d_X_tellReach_2 : decode y_X_tellReach.2.1 2 = .ok (.putfield 209, 3) := by decide +kernel
theorem d_X_tellReach_5 : decode y_X_tellReach.2.1 5 = .ok (.aload_n 0, 1) := by decide +kernel
theorem d_X_tellReach_6 : decode y_X_tellReach.2.1 6 = .ok (.aload_n 0, 1) := by decide +kernel
theorem d_X_tellReach_7 : decode y_X_tellReach.2.1 7 = .ok (.getfield 26, 3) := by decide +kernel
theorem d_X_tellReach_10 : decode y_X_tellReach.2.1 10 = .ok (.invokevirtual 343, 3) := by decide +kernel
theorem d_X_tellReach_13 : decode y_X_tellReach.2.1 13 = .ok (.invokevirtual 215, 3) := by decide +kernel
theorem d_X_tellReach_16 : decode y_X_tellReach.2.1 16 = .ok (.aload_n 0, 1) := by decide +kernel
theorem d_X_tellReach_17 : decode y_X_tellReach.2.1 17 = .ok (.aload_n 0, 1) := by decide +kernel
theorem d_X_tellReach_18 : decode y_X_tellReach.2.1 18 = .ok (.getfield 26, 3) := by decide +kernel
theorem d_X_tellReach_21 : decode y_X_tellReach.2.1 21 = .ok (.invokevirtual 346, 3) := by decide +kernel
theorem d_X_tellReach_24 : decode y_X_tellReach.2.1 24 = .ok (.invokevirtual 215, 3) := by decide +kernel
theorem d_X_tellReach_27 : decode y_X_tellReach.2.1 27 = .ok (.aload_n 0, 1) := by decide +kernel
theorem d_X_tellReach_28 : decode y_X_tellReach.2.1 28 = .ok (.getfield 26, 3) := by decide +kernel
theorem d_X_tellReach_31 : decode y_X_tellReach.2.1 31 = .ok (.getfield 349, 3) := by decide +kernel
theorem d_X_tellReach_34 : decode y_X_tellReach.2.1 34 = .ok (.ireturn, 1) := by decide +kernel
theorem d_X_together_0 : decode y_X_together.2.1 0 = .ok (.iload_n 1, 1) := by decide +kernel
theorem d_X_together_1 : decode y_X_together.2.1 1 = .ok (.invokestatic 141, 3) := by decide +kernel
theorem d_X_together_4 : decode y_X_together.2.1 4 = .ok (.ifCond .eq 14, 3) := by decide +kernel
theorem d_X_together_7 : decode y_X_together.2.1 7 = .ok (.aload_n 0, 1) := by decide +kernel
theorem d_X_together_8 : decode y_X_together.2.1 8 = .ok (.getfield 19, 3) := by decide +kernel
theorem d_X_together_11 : decode y_X_together.2.1 11 = .ok (.iload_n 2, 1) := by decide +kernel
theorem d_X_together_12 : decode y_X_together.2.1 12 = .ok (.invokevirtual 218, 3) := by decide +kernel
theorem d_X_together_15 : decode y_X_together.2.1 15 = .ok (.ifCond .eq 5, 3) := by decide +kernel
theorem d_X_together_18 : decode y_X_together.2.1 18 = .ok (.iconst (-1), 1) := by decide +kernel
theorem d_X_together_19 : decode y_X_together.2.1 19 = .ok (.ireturn, 1) := by decide +kernel
theorem d_X_together_20 : decode y_X_together.2.1 20 = .ok (.aload_n 0, 1) := by decide +kernel
theorem d_X_together_21 : decode y_X_together.2.1 21 = .ok (.iload_n 1, 1) := by decide +kernel
theorem d_X_together_22 : decode y_X_together.2.1 22 = .ok (.invokevirtual 328, 3) := by decide +kernel
theorem d_X_together_25 : decode y_X_together.2.1 25 = .ok (.aload_n 0, 1) := by decide +kernel
theorem d_X_together_26 : decode y_X_together.2.1 26 = .ok (.aload_n 0, 1) := by decide +kernel
theorem d_X_together_27 : decode y_X_together.2.1 27 = .ok (.getfield 26, 3) := by decide +kernel
theorem d_X_together_30 : decode y_X_together.2.1 30 = .ok (.iload_n 2, 1) := by decide +kernel
theorem d_X_together_31 : decode y_X_together.2.1 31 = .ok (.invokevirtual 350, 3) := by decide +kernel
theorem d_X_together_34 : decode y_X_together.2.1 34 = .ok (.invokevirtual 353, 3) := by decide +kernel
theorem d_X_together_37 : decode y_X_together.2.1 37 = .ok (.ireturn, 1) := by decide +kernel
theorem d_X_tellWay_0 : decode y_X_tellWay.2.1 0 = .ok (.iload_n 1, 1) := by decide +kernel
theorem d_X_tellWay_1 : decode y_X_tellWay.2.1 1 = .ok (.iconst (-1), 1) := by decide +kernel
theorem d_X_tellWay_2 : decode y_X_tellWay.2.1 2 = .ok (.if_icmp .ne 6, 3) := by decide +kernel
theorem d_X_tellWay_5 : decode y_X_tellWay.2.1 5 = .ok (.bipush (-2), 2) := by decide +kernel
theorem d_X_tellWay_7 : decode y_X_tellWay.2.1 7 = .ok (.ireturn, 1) := by decide +kernel
theorem d_X_tellWay_8 : decode y_X_tellWay.2.1 8 = .ok (.aload_n 0, 1) := by decide +kernel
theorem d_X_tellWay_9 : decode y_X_tellWay.2.1 9 = .ok (.getfield 26, 3) := by decide +kernel
theorem d_X_tellWay_12 : decode y_X_tellWay.2.1 12 = .ok (.getfield 356, 3) := by decide +kernel
theorem d_X_tellWay_15 : decode y_X_tellWay.2.1 15 = .ok (.iload_n 1, 1) := by decide +kernel
theorem d_X_tellWay_16 : decode y_X_tellWay.2.1 16 = .ok (.iaload, 1) := by decide +kernel
theorem d_X_tellWay_17 : decode y_X_tellWay.2.1 17 = .ok (.istore_n 2, 1) := by decide +kernel
theorem d_X_tellWay_18 : decode y_X_tellWay.2.1 18 = .ok (.aload_n 0, 1) := by decide +kernel
theorem d_X_tellWay_19 : decode y_X_tellWay.2.1 19 = .ok (.iload_n 2, 1) := by decide +kernel
theorem d_X_tellWay_20 : decode y_X_tellWay.2.1 20 = .ok (.bipush 10, 2) := by decide +kernel
theorem d_X_tellWay_22 : decode y_X_tellWay.2.1 22 = .ok (.invokestatic 151, 3) := by decide +kernel
theorem d_X_tellWay_25 : decode y_X_tellWay.2.1 25 = .ok (.putfield 209, 3) := by decide +kernel
theorem d_X_tellWay_28 : decode y_X_tellWay.2.1 28 = .ok (.iload_n 1, 1) := by decide +kernel
theorem d_X_tellWay_29 : decode y_X_tellWay.2.1 29 = .ok (.istore_n 3, 1) := by decide +kernel
theorem d_X_tellWay_30 : decode y_X_tellWay.2.1 30 = .ok (.iload_n 2, 1) := by decide +kernel
theorem d_X_tellWay_31 : decode y_X_tellWay.2.1 31 = .ok (.iconst 1, 1) := by decide +kernel
theorem d_X_tellWay_32 : decode y_X_tellWay.2.1 32 = .ok (.isub, 1) := by decide +kernel
theorem d_X_tellWay_33 : decode y_X_tellWay.2.1 33 = .ok (.istore 4, 2) := by decide +kernel
theorem d_X_tellWay_35 : decode y_X_tellWay.2.1 35 = .ok (.iload 4, 2) := by decide +kernel
theorem d_X_tellWay_37 : decode y_X_tellWay.2.1 37 = .ok (.ifCond .lt 49, 3) := by decide +kernel
theorem d_X_tellWay_40 : decode y_X_tellWay.2.1 40 = .ok (.iload_n 3, 1) := by decide +kernel
theorem d_X_tellWay_41 : decode y_X_tellWay.2.1 41 = .ok (.iconst (-1), 1) := by decide +kernel
theorem d_X_tellWay_42 : decode y_X_tellWay.2.1 42 = .ok (.if_icmp .eq 44, 3) := by decide +kernel
theorem d_X_tellWay_45 : decode y_X_tellWay.2.1 45 = .ok (.iload 4, 2) := by decide +kernel
theorem d_X_tellWay_47 : decode y_X_tellWay.2.1 47 = .ok (.aload_n 0, 1) := by decide +kernel
theorem d_X_tellWay_48 : decode y_X_tellWay.2.1 48 = .ok (.getfield 209, 3) := by decide +kernel
theorem d_X_tellWay_51 : decode y_X_tellWay.2.1 51 = .ok (.if_icmp .ge 19, 3) := by decide +kernel
theorem d_X_tellWay_54 : decode y_X_tellWay.2.1 54 = .ok (.aload_n 0, 1) := by decide +kernel
theorem d_X_tellWay_55 : decode y_X_tellWay.2.1 55 = .ok (.getfield 60, 3) := by decide +kernel
theorem d_X_tellWay_58 : decode y_X_tellWay.2.1 58 = .ok (.iload 4, 2) := by decide +kernel
theorem d_X_tellWay_60 : decode y_X_tellWay.2.1 60 = .ok (.aload_n 0, 1) := by decide +kernel
theorem d_X_tellWay_61 : decode y_X_tellWay.2.1 61 = .ok (.getfield 26, 3) := by decide +kernel
theorem d_X_tellWay_64 : decode y_X_tellWay.2.1 64 = .ok (.getfield 359, 3) := by decide +kernel
theorem d_X_tellWay_67 : decode y_X_tellWay.2.1 67 = .ok (.iload_n 3, 1) := by decide +kernel
theorem d_X_tellWay_68 : decode y_X_tellWay.2.1 68 = .ok (.iaload, 1) := by decide +kernel
theorem d_X_tellWay_69 : decode y_X_tellWay.2.1 69 = .ok (.iastore, 1) := by decide +kernel
theorem d_X_tellWay_70 : decode y_X_tellWay.2.1 70 = .ok (.aload_n 0, 1) := by decide +kernel
theorem d_X_tellWay_71 : decode y_X_tellWay.2.1 71 = .ok (.getfield 26, 3) := by decide +kernel
theorem d_X_tellWay_74 : decode y_X_tellWay.2.1 74 = .ok (.getfield 362, 3) := by decide +kernel
theorem d_X_tellWay_77 : decode y_X_tellWay.2.1 77 = .ok (.iload_n 3, 1) := by decide +kernel
theorem d_X_tellWay_78 : decode y_X_tellWay.2.1 78 = .ok (.iaload, 1) := by decide +kernel
theorem d_X_tellWay_79 : decode y_X_tellWay.2.1 79 = .ok (.istore_n 3, 1) := by decide +kernel
theorem d_X_tellWay_80 : decode y_X_tellWay.2.1 80 = .ok (.iinc 4 (-1), 3) := by decide +kernel
theorem d_X_tellWay_83 : decode y_X_tellWay.2.1 83 = .ok (.goto (-48), 3) := by decide +kernel
theorem d_X_tellWay_86 : decode y_X_tellWay.2.1 86 = .ok (.iload_n 2, 1) := by decide +kernel
theorem d_X_tellWay_87 : decode y_X_tellWay.2.1 87 = .ok (.ireturn, 1) := by decide +kernel
theorem d_X_frees_0 : decode y_X_frees.2.1 0 = .ok (.iload_n 1, 1) := by decide +kernel
theorem d_X_frees_1 : decode y_X_frees.2.1 1 = .ok (.invokestatic 141, 3) := by decide +kernel
theorem d_X_frees_4 : decode y_X_frees.2.1 4 = .ok (.ifCond .ne 5, 3) := by decide +kernel
theorem d_X_frees_7 : decode y_X_frees.2.1 7 = .ok (.iconst (-1), 1) := by decide +kernel
theorem d_X_frees_8 : decode y_X_frees.2.1 8 = .ok (.ireturn, 1) := by decide +kernel
theorem d_X_frees_9 : decode y_X_frees.2.1 9 = .ok (.aload_n 0, 1) := by decide +kernel
theorem d_X_frees_10 : decode y_X_frees.2.1 10 = .ok (.getfield 19, 3) := by decide +kernel
theorem d_X_frees_13 : decode y_X_frees.2.1 13 = .ok (.getfield 88, 3) := by decide +kernel
theorem d_X_frees_16 : decode y_X_frees.2.1 16 = .ok (.ifCond .ne 6, 3) := by decide +kernel
theorem d_X_frees_19 : decode y_X_frees.2.1 19 = .ok (.bipush (-2), 2) := by decide +kernel
theorem d_X_frees_21 : decode y_X_frees.2.1 21 = .ok (.ireturn, 1) := by decide +kernel
theorem d_X_frees_22 : decode y_X_frees.2.1 22 = .ok (.aload_n 0, 1) := by decide +kernel
theorem d_X_frees_23 : decode y_X_frees.2.1 23 = .ok (.getfield 19, 3) := by decide +kernel
theorem d_X_frees_26 : decode y_X_frees.2.1 26 = .ok (.invokevirtual 191, 3) := by decide +kernel
theorem d_X_frees_29 : decode y_X_frees.2.1 29 = .ok (.istore_n 2, 1) := by decide +kernel
theorem d_X_frees_30 : decode y_X_frees.2.1 30 = .ok (.iconst 0, 1) := by decide +kernel
theorem d_X_frees_31 : decode y_X_frees.2.1 31 = .ok (.istore_n 3, 1) := by decide +kernel
theorem d_X_frees_32 : decode y_X_frees.2.1 32 = .ok (.iconst 0, 1) := by decide +kernel
theorem d_X_frees_33 : decode y_X_frees.2.1 33 = .ok (.istore 4, 2) := by decide +kernel
theorem d_X_frees_35 : decode y_X_frees.2.1 35 = .ok (.iconst 0, 1) := by decide +kernel
theorem d_X_frees_36 : decode y_X_frees.2.1 36 = .ok (.istore 5, 2) := by decide +kernel
theorem d_X_frees_38 : decode y_X_frees.2.1 38 = .ok (.iload 5, 2) := by decide +kernel
theorem d_X_frees_40 : decode y_X_frees.2.1 40 = .ok (.aload_n 0, 1) := by decide +kernel
theorem d_X_frees_41 : decode y_X_frees.2.1 41 = .ok (.getfield 19, 3) := by decide +kernel
theorem d_X_frees_44 : decode y_X_frees.2.1 44 = .ok (.getfield 88, 3) := by decide +kernel
theorem d_X_frees_47 : decode y_X_frees.2.1 47 = .ok (.if_icmp .ge 54, 3) := by decide +kernel
theorem d_X_frees_50 : decode y_X_frees.2.1 50 = .ok (.aload_n 0, 1) := by decide +kernel
theorem d_X_frees_51 : decode y_X_frees.2.1 51 = .ok (.getfield 19, 3) := by decide +kernel
theorem d_X_frees_54 : decode y_X_frees.2.1 54 = .ok (.lconst 0, 1) := by decide +kernel
theorem d_X_frees_55 : decode y_X_frees.2.1 55 = .ok (.iload_n 1, 1) := by decide +kernel
theorem d_X_frees_56 : decode y_X_frees.2.1 56 = .ok (.iconst 1, 1) := by decide +kernel
theorem d_X_frees_57 : decode y_X_frees.2.1 57 = .ok (.iload 5, 2) := by decide +kernel
theorem d_X_frees_59 : decode y_X_frees.2.1 59 = .ok (.ishl, 1) := by decide +kernel
theorem d_X_frees_60 : decode y_X_frees.2.1 60 = .ok (.invokestatic 221, 3) := by decide +kernel
theorem d_X_frees_63 : decode y_X_frees.2.1 63 = .ok (.iload_n 2, 1) := by decide +kernel
theorem d_X_frees_64 : decode y_X_frees.2.1 64 = .ok (.iload_n 1, 1) := by decide +kernel
theorem d_X_frees_65 : decode y_X_frees.2.1 65 = .ok (.invokevirtual 212, 3) := by decide +kernel
theorem d_X_frees_68 : decode y_X_frees.2.1 68 = .ok (.istore 6, 2) := by decide +kernel
theorem d_X_frees_70 : decode y_X_frees.2.1 70 = .ok (.iload 5, 2) := by decide +kernel
theorem d_X_frees_72 : decode y_X_frees.2.1 72 = .ok (.ifCond .eq 16, 3) := by decide +kernel
theorem d_X_frees_75 : decode y_X_frees.2.1 75 = .ok (.iload 6, 2) := by decide +kernel
theorem d_X_frees_77 : decode y_X_frees.2.1 77 = .ok (.invokestatic 271, 3) := by decide +kernel
theorem d_X_frees_80 : decode y_X_frees.2.1 80 = .ok (.iload 4, 2) := by decide +kernel
theorem d_X_frees_82 : decode y_X_frees.2.1 82 = .ok (.invokestatic 271, 3) := by decide +kernel
theorem d_X_frees_85 : decode y_X_frees.2.1 85 = .ok (.if_icmp .le 10, 3) := by decide +kernel
theorem d_X_frees_88 : decode y_X_frees.2.1 88 = .ok (.iload 5, 2) := by decide +kernel
theorem d_X_frees_90 : decode y_X_frees.2.1 90 = .ok (.istore_n 3, 1) := by decide +kernel
theorem d_X_frees_91 : decode y_X_frees.2.1 91 = .ok (.iload 6, 2) := by decide +kernel
theorem d_X_frees_93 : decode y_X_frees.2.1 93 = .ok (.istore 4, 2) := by decide +kernel
theorem d_X_frees_95 : decode y_X_frees.2.1 95 = .ok (.iinc 5 1, 3) := by decide +kernel
theorem d_X_frees_98 : decode y_X_frees.2.1 98 = .ok (.goto (-60), 3) := by decide +kernel
theorem d_X_frees_101 : decode y_X_frees.2.1 101 = .ok (.aload_n 0, 1) := by decide +kernel
theorem d_X_frees_102 : decode y_X_frees.2.1 102 = .ok (.iconst 0, 1) := by decide +kernel
theorem d_X_frees_103 : decode y_X_frees.2.1 103 = .ok (.putfield 209, 3) := by decide +kernel
theorem d_X_frees_106 : decode y_X_frees.2.1 106 = .ok (.aload_n 0, 1) := by decide +kernel
theorem d_X_frees_107 : decode y_X_frees.2.1 107 = .ok (.iload 4, 2) := by decide +kernel
theorem d_X_frees_109 : decode y_X_frees.2.1 109 = .ok (.invokestatic 271, 3) := by decide +kernel
theorem d_X_frees_112 : decode y_X_frees.2.1 112 = .ok (.invokevirtual 215, 3) := by decide +kernel
theorem d_X_frees_115 : decode y_X_frees.2.1 115 = .ok (.aload_n 0, 1) := by decide +kernel
theorem d_X_frees_116 : decode y_X_frees.2.1 116 = .ok (.iload 4, 2) := by decide +kernel
theorem d_X_frees_118 : decode y_X_frees.2.1 118 = .ok (.invokevirtual 215, 3) := by decide +kernel
theorem d_X_frees_121 : decode y_X_frees.2.1 121 = .ok (.iload_n 3, 1) := by decide +kernel
theorem d_X_frees_122 : decode y_X_frees.2.1 122 = .ok (.ireturn, 1) := by decide +kernel
theorem d_X_keeps_0 : decode y_X_keeps.2.1 0 = .ok (.iload_n 1, 1) := by decide +kernel
theorem d_X_keeps_1 : decode y_X_keeps.2.1 1 = .ok (.invokestatic 141, 3) := by decide +kernel
theorem d_X_keeps_4 : decode y_X_keeps.2.1 4 = .ok (.ifCond .eq 14, 3) := by decide +kernel
theorem d_X_keeps_7 : decode y_X_keeps.2.1 7 = .ok (.aload_n 0, 1) := by decide +kernel
theorem d_X_keeps_8 : decode y_X_keeps.2.1 8 = .ok (.getfield 19, 3) := by decide +kernel
theorem d_X_keeps_11 : decode y_X_keeps.2.1 11 = .ok (.iload_n 2, 1) := by decide +kernel
theorem d_X_keeps_12 : decode y_X_keeps.2.1 12 = .ok (.invokevirtual 218, 3) := by decide +kernel
theorem d_X_keeps_15 : decode y_X_keeps.2.1 15 = .ok (.ifCond .eq 5, 3) := by decide +kernel
theorem d_X_keeps_18 : decode y_X_keeps.2.1 18 = .ok (.iconst (-1), 1) := by decide +kernel
theorem d_X_keeps_19 : decode y_X_keeps.2.1 19 = .ok (.ireturn, 1) := by decide +kernel
theorem d_X_keeps_20 : decode y_X_keeps.2.1 20 = .ok (.aload_n 0, 1) := by decide +kernel
theorem d_X_keeps_21 : decode y_X_keeps.2.1 21 = .ok (.getfield 19, 3) := by decide +kernel
theorem d_X_keeps_24 : decode y_X_keeps.2.1 24 = .ok (.getfield 144, 3) := by decide +kernel
theorem d_X_keeps_27 : decode y_X_keeps.2.1 27 = .ok (.iload_n 1, 1) := by decide +kernel
theorem d_X_keeps_28 : decode y_X_keeps.2.1 28 = .ok (.iaload, 1) := by decide +kernel
theorem d_X_keeps_29 : decode y_X_keeps.2.1 29 = .ok (.istore_n 3, 1) := by decide +kernel
theorem d_X_keeps_30 : decode y_X_keeps.2.1 30 = .ok (.aload_n 0, 1) := by decide +kernel
theorem d_X_keeps_31 : decode y_X_keeps.2.1 31 = .ok (.getfield 26, 3) := by decide +kernel
theorem d_X_keeps_34 : decode y_X_keeps.2.1 34 = .ok (.invokevirtual 334, 3) := by decide +kernel
theorem d_X_keeps_37 : decode y_X_keeps.2.1 37 = .ok (.iconst 0, 1) := by decide +kernel
theorem d_X_keeps_38 : decode y_X_keeps.2.1 38 = .ok (.istore 4, 2) := by decide +kernel
theorem d_X_keeps_40 : decode y_X_keeps.2.1 40 = .ok (.iload 4, 2) := by decide +kernel
theorem d_X_keeps_42 : decode y_X_keeps.2.1 42 = .ok (.aload_n 0, 1) := by decide +kernel
theorem d_X_keeps_43 : decode y_X_keeps.2.1 43 = .ok (.getfield 19, 3) := by decide +kernel
theorem d_X_keeps_46 : decode y_X_keeps.2.1 46 = .ok (.invokevirtual 305, 3) := by decide +kernel
theorem d_X_keeps_49 : decode y_X_keeps.2.1 49 = .ok (.if_icmp .gt 40, 3) := by decide +kernel
theorem d_X_keeps_52 : decode y_X_keeps.2.1 52 = .ok (.iload 4, 2) := by decide +kernel
theorem d_X_keeps_54 : decode y_X_keeps.2.1 54 = .ok (.invokestatic 271, 3) := by decide +kernel
theorem d_X_keeps_57 : decode y_X_keeps.2.1 57 = .ok (.iload_n 3, 1) := by decide +kernel
theorem d_X_keeps_58 : decode y_X_keeps.2.1 58 = .ok (.if_icmp .gt 25, 3) := by decide +kernel
theorem d_X_keeps_61 : decode y_X_keeps.2.1 61 = .ok (.aload_n 0, 1) := by decide +kernel
theorem d_X_keeps_62 : decode y_X_keeps.2.1 62 = .ok (.getfield 26, 3) := by decide +kernel
theorem d_X_keeps_65 : decode y_X_keeps.2.1 65 = .ok (.aload_n 0, 1) := by decide +kernel
theorem d_X_keeps_66 : decode y_X_keeps.2.1 66 = .ok (.getfield 19, 3) := by decide +kernel
theorem d_X_keeps_69 : decode y_X_keeps.2.1 69 = .ok (.lconst 0, 1) := by decide +kernel
theorem d_X_keeps_70 : decode y_X_keeps.2.1 70 = .ok (.iload_n 1, 1) := by decide +kernel
theorem d_X_keeps_71 : decode y_X_keeps.2.1 71 = .ok (.iload 4, 2) := by decide +kernel
theorem d_X_keeps_73 : decode y_X_keeps.2.1 73 = .ok (.invokestatic 221, 3) := by decide +kernel
theorem d_X_keeps_76 : decode y_X_keeps.2.1 76 = .ok (.iload_n 1, 1) := by decide +kernel
theorem d_X_keeps_77 : decode y_X_keeps.2.1 77 = .ok (.invokevirtual 123, 3) := by decide +kernel
theorem d_X_keeps_80 : decode y_X_keeps.2.1 80 = .ok (.invokevirtual 335, 3) := by decide +kernel
theorem d_X_keeps_83 : decode y_X_keeps.2.1 83 = .ok (.iinc 4 1, 3) := by decide +kernel
theorem d_X_keeps_86 : decode y_X_keeps.2.1 86 = .ok (.goto (-46), 3) := by decide +kernel
theorem d_X_keeps_89 : decode y_X_keeps.2.1 89 = .ok (.aload_n 0, 1) := by decide +kernel
theorem d_X_keeps_90 : decode y_X_keeps.2.1 90 = .ok (.getfield 26, 3) := by decide +kernel
theorem d_X_keeps_93 : decode y_X_keeps.2.1 93 = .ok (.aload_n 0, 1) := by decide +kernel
theorem d_X_keeps_94 : decode y_X_keeps.2.1 94 = .ok (.getfield 19, 3) := by decide +kernel
theorem d_X_keeps_97 : decode y_X_keeps.2.1 97 = .ok (.iload_n 1, 1) := by decide +kernel
theorem d_X_keeps_98 : decode y_X_keeps.2.1 98 = .ok (.invokevirtual 339, 3) := by decide +kernel
theorem d_X_keeps_101 : decode y_X_keeps.2.1 101 = .ok (.pop, 1) := by decide +kernel
theorem d_X_keeps_102 : decode y_X_keeps.2.1 102 = .ok (.aload_n 0, 1) := by decide +kernel
theorem d_X_keeps_103 : decode y_X_keeps.2.1 103 = .ok (.getfield 26, 3) := by decide +kernel
theorem d_X_keeps_106 : decode y_X_keeps.2.1 106 = .ok (.invokevirtual 365, 3) := by decide +kernel
theorem d_X_keeps_109 : decode y_X_keeps.2.1 109 = .ok (.iconst (-1), 1) := by decide +kernel
theorem d_X_keeps_110 : decode y_X_keeps.2.1 110 = .ok (.istore 4, 2) := by decide +kernel
theorem d_X_keeps_112 : decode y_X_keeps.2.1 112 = .ok (.iconst 0, 1) := by decide +kernel
theorem d_X_keeps_113 : decode y_X_keeps.2.1 113 = .ok (.istore 5, 2) := by decide +kernel
theorem d_X_keeps_115 : decode y_X_keeps.2.1 115 = .ok (.iload 5, 2) := by decide +kernel
theorem d_X_keeps_117 : decode y_X_keeps.2.1 117 = .ok (.aload_n 0, 1) := by decide +kernel
theorem d_X_keeps_118 : decode y_X_keeps.2.1 118 = .ok (.getfield 19, 3) := by decide +kernel
theorem d_X_keeps_121 : decode y_X_keeps.2.1 121 = .ok (.invokevirtual 305, 3) := by decide +kernel
theorem d_X_keeps_124 : decode y_X_keeps.2.1 124 = .ok (.if_icmp .gt 89, 3) := by decide +kernel
theorem d_X_keeps_127 : decode y_X_keeps.2.1 127 = .ok (.iload 5, 2) := by decide +kernel
theorem d_X_keeps_129 : decode y_X_keeps.2.1 129 = .ok (.invokestatic 271, 3) := by decide +kernel
theorem d_X_keeps_132 : decode y_X_keeps.2.1 132 = .ok (.istore 6, 2) := by decide +kernel
theorem d_X_keeps_134 : decode y_X_keeps.2.1 134 = .ok (.iload 6, 2) := by decide +kernel
theorem d_X_keeps_136 : decode y_X_keeps.2.1 136 = .ok (.iload_n 3, 1) := by decide +kernel
theorem d_X_keeps_137 : decode y_X_keeps.2.1 137 = .ok (.if_icmp .gt 70, 3) := by decide +kernel
theorem d_X_keeps_140 : decode y_X_keeps.2.1 140 = .ok (.iload 4, 2) := by decide +kernel
theorem d_X_keeps_142 : decode y_X_keeps.2.1 142 = .ok (.iconst (-1), 1) := by decide +kernel
theorem d_X_keeps_143 : decode y_X_keeps.2.1 143 = .ok (.if_icmp .eq 13, 3) := by decide +kernel
theorem d_X_keeps_146 : decode y_X_keeps.2.1 146 = .ok (.iload 6, 2) := by decide +kernel
theorem d_X_keeps_148 : decode y_X_keeps.2.1 148 = .ok (.iload 4, 2) := by decide +kernel
theorem d_X_keeps_150 : decode y_X_keeps.2.1 150 = .ok (.invokestatic 271, 3) := by decide +kernel
theorem d_X_keeps_153 : decode y_X_keeps.2.1 153 = .ok (.if_icmp .ge 54, 3) := by decide +kernel
theorem d_X_keeps_156 : decode y_X_keeps.2.1 156 = .ok (.aload_n 0, 1) := by decide +kernel
theorem d_X_keeps_157 : decode y_X_keeps.2.1 157 = .ok (.getfield 26, 3) := by decide +kernel
theorem d_X_keeps_160 : decode y_X_keeps.2.1 160 = .ok (.aload_n 0, 1) := by decide +kernel
theorem d_X_keeps_161 : decode y_X_keeps.2.1 161 = .ok (.getfield 19, 3) := by decide +kernel
theorem d_X_keeps_164 : decode y_X_keeps.2.1 164 = .ok (.lconst 0, 1) := by decide +kernel
theorem d_X_keeps_165 : decode y_X_keeps.2.1 165 = .ok (.iload_n 1, 1) := by decide +kernel
theorem d_X_keeps_166 : decode y_X_keeps.2.1 166 = .ok (.iload 5, 2) := by decide +kernel
theorem d_X_keeps_168 : decode y_X_keeps.2.1 168 = .ok (.invokestatic 221, 3) := by decide +kernel
theorem d_X_keeps_171 : decode y_X_keeps.2.1 171 = .ok (.iload_n 1, 1) := by decide +kernel
theorem d_X_keeps_172 : decode y_X_keeps.2.1 172 = .ok (.invokevirtual 123, 3) := by decide +kernel
theorem d_X_keeps_175 : decode y_X_keeps.2.1 175 = .ok (.invokevirtual 368, 3) := by decide +kernel
theorem d_X_keeps_178 : decode y_X_keeps.2.1 178 = .ok (.istore 7, 2) := by decide +kernel
theorem d_X_keeps_180 : decode y_X_keeps.2.1 180 = .ok (.iload 7, 2) := by decide +kernel
theorem d_X_keeps_182 : decode y_X_keeps.2.1 182 = .ok (.iconst (-1), 1) := by decide +kernel
theorem d_X_keeps_183 : decode y_X_keeps.2.1 183 = .ok (.if_icmp .eq 24, 3) := by decide +kernel
theorem d_X_keeps_186 : decode y_X_keeps.2.1 186 = .ok (.iload_n 2, 1) := by decide +kernel
theorem d_X_keeps_187 : decode y_X_keeps.2.1 187 = .ok (.aload_n 0, 1) := by decide +kernel
theorem d_X_keeps_188 : decode y_X_keeps.2.1 188 = .ok (.getfield 26, 3) := by decide +kernel
theorem d_X_keeps_191 : decode y_X_keeps.2.1 191 = .ok (.getfield 371, 3) := by decide +kernel
theorem d_X_keeps_194 : decode y_X_keeps.2.1 194 = .ok (.iload 7, 2) := by decide +kernel
theorem d_X_keeps_196 : decode y_X_keeps.2.1 196 = .ok (.iaload, 1) := by decide +kernel
theorem d_X_keeps_197 : decode y_X_keeps.2.1 197 = .ok (.iconst (-1), 1) := by decide +kernel
theorem d_X_keeps_198 : decode y_X_keeps.2.1 198 = .ok (.ixor, 1) := by decide +kernel
theorem d_X_keeps_199 : decode y_X_keeps.2.1 199 = .ok (.iand, 1) := by decide +kernel
theorem d_X_keeps_200 : decode y_X_keeps.2.1 200 = .ok (.ifCond .ne 7, 3) := by decide +kernel
theorem d_X_keeps_203 : decode y_X_keeps.2.1 203 = .ok (.iload 5, 2) := by decide +kernel
theorem d_X_keeps_205 : decode y_X_keeps.2.1 205 = .ok (.istore 4, 2) := by decide +kernel
theorem d_X_keeps_207 : decode y_X_keeps.2.1 207 = .ok (.iinc 5 1, 3) := by decide +kernel
theorem d_X_keeps_210 : decode y_X_keeps.2.1 210 = .ok (.goto (-95), 3) := by decide +kernel
theorem d_X_keeps_213 : decode y_X_keeps.2.1 213 = .ok (.iload 4, 2) := by decide +kernel
theorem d_X_keeps_215 : decode y_X_keeps.2.1 215 = .ok (.iconst (-1), 1) := by decide +kernel
theorem d_X_keeps_216 : decode y_X_keeps.2.1 216 = .ok (.if_icmp .ne 6, 3) := by decide +kernel
theorem d_X_keeps_219 : decode y_X_keeps.2.1 219 = .ok (.bipush (-2), 2) := by decide +kernel
theorem d_X_keeps_221 : decode y_X_keeps.2.1 221 = .ok (.ireturn, 1) := by decide +kernel
theorem d_X_keeps_222 : decode y_X_keeps.2.1 222 = .ok (.aload_n 0, 1) := by decide +kernel
theorem d_X_keeps_223 : decode y_X_keeps.2.1 223 = .ok (.iconst 0, 1) := by decide +kernel
theorem d_X_keeps_224 : decode y_X_keeps.2.1 224 = .ok (.putfield 209, 3) := by decide +kernel
theorem d_X_keeps_227 : decode y_X_keeps.2.1 227 = .ok (.aload_n 0, 1) := by decide +kernel
theorem d_X_keeps_228 : decode y_X_keeps.2.1 228 = .ok (.iload 4, 2) := by decide +kernel
theorem d_X_keeps_230 : decode y_X_keeps.2.1 230 = .ok (.invokevirtual 215, 3) := by decide +kernel
theorem d_X_keeps_233 : decode y_X_keeps.2.1 233 = .ok (.iload 4, 2) := by decide +kernel
theorem d_X_keeps_235 : decode y_X_keeps.2.1 235 = .ok (.invokestatic 271, 3) := by decide +kernel
theorem d_X_keeps_238 : decode y_X_keeps.2.1 238 = .ok (.ireturn, 1) := by decide +kernel
theorem d_X_finish_0 : decode y_X_finish.2.1 0 = .ok (.iload_n 1, 1) := by decide +kernel
theorem d_X_finish_1 : decode y_X_finish.2.1 1 = .ok (.invokestatic 141, 3) := by decide +kernel
theorem d_X_finish_4 : decode y_X_finish.2.1 4 = .ok (.ifCond .eq 12, 3) := by decide +kernel
theorem d_X_finish_7 : decode y_X_finish.2.1 7 = .ok (.iload_n 2, 1) := by decide +kernel
theorem d_X_finish_8 : decode y_X_finish.2.1 8 = .ok (.aload_n 0, 1) := by decide +kernel
theorem d_X_finish_9 : decode y_X_finish.2.1 9 = .ok (.getfield 229, 3) := by decide +kernel
theorem d_X_finish_12 : decode y_X_finish.2.1 12 = .ok (.ishr, 1) := by decide +kernel
theorem d_X_finish_13 : decode y_X_finish.2.1 13 = .ok (.ifCond .eq 5, 3) := by decide +kernel
theorem d_X_finish_16 : decode y_X_finish.2.1 16 = .ok (.iconst (-1), 1) := by decide +kernel
theorem d_X_finish_17 : decode y_X_finish.2.1 17 = .ok (.ireturn, 1) := by decide +kernel
theorem d_X_finish_18 : decode y_X_finish.2.1 18 = .ok (.iconst 0, 1) := by decide +kernel
theorem d_X_finish_19 : decode y_X_finish.2.1 19 = .ok (.istore_n 3, 1) := by decide +kernel
theorem d_X_finish_20 : decode y_X_finish.2.1 20 = .ok (.iconst 0, 1) := by decide +kernel
theorem d_X_finish_21 : decode y_X_finish.2.1 21 = .ok (.istore 4, 2) := by decide +kernel
theorem d_X_finish_23 : decode y_X_finish.2.1 23 = .ok (.iload 4, 2) := by decide +kernel
theorem d_X_finish_25 : decode y_X_finish.2.1 25 = .ok (.aload_n 0, 1) := by decide +kernel
theorem d_X_finish_26 : decode y_X_finish.2.1 26 = .ok (.getfield 229, 3) := by decide +kernel
theorem d_X_finish_29 : decode y_X_finish.2.1 29 = .ok (.if_icmp .ge 31, 3) := by decide +kernel
theorem d_X_finish_32 : decode y_X_finish.2.1 32 = .ok (.iload_n 2, 1) := by decide +kernel
theorem d_X_finish_33 : decode y_X_finish.2.1 33 = .ok (.iload 4, 2) := by decide +kernel
theorem d_X_finish_35 : decode y_X_finish.2.1 35 = .ok (.ishr, 1) := by decide +kernel
theorem d_X_finish_36 : decode y_X_finish.2.1 36 = .ok (.iconst 1, 1) := by decide +kernel
theorem d_X_finish_37 : decode y_X_finish.2.1 37 = .ok (.iand, 1) := by decide +kernel
theorem d_X_finish_38 : decode y_X_finish.2.1 38 = .ok (.ifCond .eq 16, 3) := by decide +kernel
theorem d_X_finish_41 : decode y_X_finish.2.1 41 = .ok (.iload_n 3, 1) := by decide +kernel
theorem d_X_finish_42 : decode y_X_finish.2.1 42 = .ok (.aload_n 0, 1) := by decide +kernel
theorem d_X_finish_43 : decode y_X_finish.2.1 43 = .ok (.getfield 46, 3) := by decide +kernel
theorem d_X_finish_46 : decode y_X_finish.2.1 46 = .ok (.iload 4, 2) := by decide +kernel
theorem d_X_finish_48 : decode y_X_finish.2.1 48 = .ok (.aaload, 1) := by decide +kernel
theorem d_X_finish_49 : decode y_X_finish.2.1 49 = .ok (.invokevirtual 254, 3) := by decide +kernel
theorem d_X_finish_52 : decode y_X_finish.2.1 52 = .ok (.ior, 1) := by decide +kernel
theorem d_X_finish_53 : decode y_X_finish.2.1 53 = .ok (.istore_n 3, 1) := by decide +kernel
theorem d_X_finish_54 : decode y_X_finish.2.1 54 = .ok (.iinc 4 1, 3) := by decide +kernel
theorem d_X_finish_57 : decode y_X_finish.2.1 57 = .ok (.goto (-34), 3) := by decide +kernel
theorem d_X_finish_60 : decode y_X_finish.2.1 60 = .ok (.aload_n 0, 1) := by decide +kernel
theorem d_X_finish_61 : decode y_X_finish.2.1 61 = .ok (.iload_n 1, 1) := by decide +kernel
theorem d_X_finish_62 : decode y_X_finish.2.1 62 = .ok (.invokevirtual 328, 3) := by decide +kernel
theorem d_X_finish_65 : decode y_X_finish.2.1 65 = .ok (.aload_n 0, 1) := by decide +kernel
theorem d_X_finish_66 : decode y_X_finish.2.1 66 = .ok (.iload_n 3, 1) := by decide +kernel
theorem d_X_finish_67 : decode y_X_finish.2.1 67 = .ok (.aload_n 0, 1) := by decide +kernel
theorem d_X_finish_68 : decode y_X_finish.2.1 68 = .ok (.getfield 26, 3) := by decide +kernel
theorem d_X_finish_71 : decode y_X_finish.2.1 71 = .ok (.invokevirtual 343, 3) := by decide +kernel
theorem d_X_finish_74 : decode y_X_finish.2.1 74 = .ok (.iconst (-1), 1) := by decide +kernel
theorem d_X_finish_75 : decode y_X_finish.2.1 75 = .ok (.ixor, 1) := by decide +kernel
theorem d_X_finish_76 : decode y_X_finish.2.1 76 = .ok (.iand, 1) := by decide +kernel
theorem d_X_finish_77 : decode y_X_finish.2.1 77 = .ok (.invokevirtual 374, 3) := by decide +kernel
theorem d_X_finish_80 : decode y_X_finish.2.1 80 = .ok (.ireturn, 1) := by decide +kernel
theorem d_X_tellMissing_0 : decode y_X_tellMissing.2.1 0 = .ok (.aload_n 0, 1) := by decide +kernel
theorem d_X_tellMissing_1 : decode y_X_tellMissing.2.1 1 = .ok (.iconst 0, 1) := by decide +kernel
theorem d_X_tellMissing_2 : decode y_X_tellMissing.2.1 2 = .ok (.putfield 209, 3) := by decide +kernel
theorem d_X_tellMissing_5 : decode y_X_tellMissing.2.1 5 = .ok (.iload_n 1, 1) := by decide +kernel
theorem d_X_tellMissing_6 : decode y_X_tellMissing.2.1 6 = .ok (.ifCond .ne 5, 3) := by decide +kernel
theorem d_X_tellMissing_9 : decode y_X_tellMissing.2.1 9 = .ok (.iconst 1, 1) := by decide +kernel
theorem d_X_tellMissing_10 : decode y_X_tellMissing.2.1 10 = .ok (.ireturn, 1) := by decide +kernel
theorem d_X_tellMissing_11 : decode y_X_tellMissing.2.1 11 = .ok (.aload_n 0, 1) := by decide +kernel
theorem d_X_tellMissing_12 : decode y_X_tellMissing.2.1 12 = .ok (.iload_n 1, 1) := by decide +kernel
theorem d_X_tellMissing_13 : decode y_X_tellMissing.2.1 13 = .ok (.invokevirtual 215, 3) := by decide +kernel
theorem d_X_tellMissing_16 : decode y_X_tellMissing.2.1 16 = .ok (.iconst 0, 1) := by decide +kernel
theorem d_X_tellMissing_17 : decode y_X_tellMissing.2.1 17 = .ok (.ireturn, 1) := by decide +kernel
theorem d_X_reach_0 : decode y_X_reach.2.1 0 = .ok (.aload_n 0, 1) := by decide +kernel
theorem d_X_reach_1 : decode y_X_reach.2.1 1 = .ok (.aload_n 0, 1) := by decide +kernel
theorem d_X_reach_2 : decode y_X_reach.2.1 2 = .ok (.getfield 115, 3) := by decide +kernel
theorem d_X_reach_5 : decode y_X_reach.2.1 5 = .ok (.invokevirtual 377, 3) := by decide +kernel
theorem d_X_reach_8 : decode y_X_reach.2.1 8 = .ok (.ifCond .eq 10, 3) := by decide +kernel
theorem d_X_reach_11 : decode y_X_reach.2.1 11 = .ok (.aload_n 0, 1) := by decide +kernel
theorem d_X_reach_12 : decode y_X_reach.2.1 12 = .ok (.invokevirtual 331, 3) := by decide +kernel
theorem d_X_reach_15 : decode y_X_reach.2.1 15 = .ok (.goto 5, 3) := by decide +kernel
theorem d_X_reach_18 : decode y_X_reach.2.1 18 = .ok (.bipush (-3), 2) := by decide +kernel
theorem d_X_reach_20 : decode y_X_reach.2.1 20 = .ok (.ireturn, 1) := by decide +kernel
theorem d_X_searchFrom_0 : decode y_X_searchFrom.2.1 0 = .ok (.aload_n 0, 1) := by decide +kernel
theorem d_X_searchFrom_1 : decode y_X_searchFrom.2.1 1 = .ok (.getfield 26, 3) := by decide +kernel
theorem d_X_searchFrom_4 : decode y_X_searchFrom.2.1 4 = .ok (.invokevirtual 334, 3) := by decide +kernel
theorem d_X_searchFrom_7 : decode y_X_searchFrom.2.1 7 = .ok (.aload_n 0, 1) := by decide +kernel
theorem d_X_searchFrom_8 : decode y_X_searchFrom.2.1 8 = .ok (.getfield 26, 3) := by decide +kernel
theorem d_X_searchFrom_11 : decode y_X_searchFrom.2.1 11 = .ok (.lload_n 1, 1) := by decide +kernel
theorem d_X_searchFrom_12 : decode y_X_searchFrom.2.1 12 = .ok (.invokevirtual 335, 3) := by decide +kernel
theorem d_X_searchFrom_15 : decode y_X_searchFrom.2.1 15 = .ok (.aload_n 0, 1) := by decide +kernel
theorem d_X_searchFrom_16 : decode y_X_searchFrom.2.1 16 = .ok (.getfield 26, 3) := by decide +kernel
theorem d_X_searchFrom_19 : decode y_X_searchFrom.2.1 19 = .ok (.aload_n 0, 1) := by decide +kernel
theorem d_X_searchFrom_20 : decode y_X_searchFrom.2.1 20 = .ok (.getfield 19, 3) := by decide +kernel
theorem d_X_searchFrom_23 : decode y_X_searchFrom.2.1 23 = .ok (.iconst (-1), 1) := by decide +kernel
theorem d_X_searchFrom_24 : decode y_X_searchFrom.2.1 24 = .ok (.invokevirtual 339, 3) := by decide +kernel
theorem d_X_searchFrom_27 : decode y_X_searchFrom.2.1 27 = .ok (.ireturn, 1) := by decide +kernel
theorem d_X_soonest_0 : decode y_X_soonest.2.1 0 = .ok (.aload_n 0, 1) := by decide +kernel
theorem d_X_soonest_1 : decode y_X_soonest.2.1 1 = .ok (.getfield 19, 3) := by decide +kernel
theorem d_X_soonest_4 : decode y_X_soonest.2.1 4 = .ok (.iload_n 1, 1) := by decide +kernel
theorem d_X_soonest_5 : decode y_X_soonest.2.1 5 = .ok (.invokevirtual 92, 3) := by decide +kernel
theorem d_X_soonest_8 : decode y_X_soonest.2.1 8 = .ok (.ifCond .ne 5, 3) := by decide +kernel
theorem d_X_soonest_11 : decode y_X_soonest.2.1 11 = .ok (.iconst (-1), 1) := by decide +kernel
theorem d_X_soonest_12 : decode y_X_soonest.2.1 12 = .ok (.ireturn, 1) := by decide +kernel
theorem d_X_soonest_13 : decode y_X_soonest.2.1 13 = .ok (.aload_n 0, 1) := by decide +kernel
theorem d_X_soonest_14 : decode y_X_soonest.2.1 14 = .ok (.aload_n 0, 1) := by decide +kernel
theorem d_X_soonest_15 : decode y_X_soonest.2.1 15 = .ok (.getfield 115, 3) := by decide +kernel
theorem d_X_soonest_18 : decode y_X_soonest.2.1 18 = .ok (.invokevirtual 377, 3) := by decide +kernel
theorem d_X_soonest_21 : decode y_X_soonest.2.1 21 = .ok (.ifCond .eq 20, 3) := by decide +kernel
theorem d_X_soonest_24 : decode y_X_soonest.2.1 24 = .ok (.aload_n 0, 1) := by decide +kernel
theorem d_X_soonest_25 : decode y_X_soonest.2.1 25 = .ok (.aload_n 0, 1) := by decide +kernel
theorem d_X_soonest_26 : decode y_X_soonest.2.1 26 = .ok (.getfield 26, 3) := by decide +kernel
theorem d_X_soonest_29 : decode y_X_soonest.2.1 29 = .ok (.iconst 1, 1) := by decide +kernel
theorem d_X_soonest_30 : decode y_X_soonest.2.1 30 = .ok (.iload_n 1, 1) := by decide +kernel
theorem d_X_soonest_31 : decode y_X_soonest.2.1 31 = .ok (.ishl, 1) := by decide +kernel
theorem d_X_soonest_32 : decode y_X_soonest.2.1 32 = .ok (.invokevirtual 350, 3) := by decide +kernel
theorem d_X_soonest_35 : decode y_X_soonest.2.1 35 = .ok (.invokevirtual 353, 3) := by decide +kernel
theorem d_X_soonest_38 : decode y_X_soonest.2.1 38 = .ok (.goto 5, 3) := by decide +kernel
theorem d_X_soonest_41 : decode y_X_soonest.2.1 41 = .ok (.bipush (-3), 2) := by decide +kernel
theorem d_X_soonest_43 : decode y_X_soonest.2.1 43 = .ok (.ireturn, 1) := by decide +kernel
theorem d_X_till_0 : decode y_X_till.2.1 0 = .ok (.aload_n 0, 1) := by decide +kernel
theorem d_X_till_1 : decode y_X_till.2.1 1 = .ok (.getfield 19, 3) := by decide +kernel
theorem d_X_till_4 : decode y_X_till.2.1 4 = .ok (.iload_n 1, 1) := by decide +kernel
theorem d_X_till_5 : decode y_X_till.2.1 5 = .ok (.invokevirtual 218, 3) := by decide +kernel
theorem d_X_till_8 : decode y_X_till.2.1 8 = .ok (.ifCond .ne 39, 3) := by decide +kernel
theorem d_X_till_11 : decode y_X_till.2.1 11 = .ok (.aload_n 0, 1) := by decide +kernel
theorem d_X_till_12 : decode y_X_till.2.1 12 = .ok (.getfield 19, 3) := by decide +kernel
theorem d_X_till_15 : decode y_X_till.2.1 15 = .ok (.iload_n 2, 1) := by decide +kernel
theorem d_X_till_16 : decode y_X_till.2.1 16 = .ok (.invokevirtual 218, 3) := by decide +kernel
theorem d_X_till_19 : decode y_X_till.2.1 19 = .ok (.ifCond .ne 28, 3) := by decide +kernel
theorem d_X_till_22 : decode y_X_till.2.1 22 = .ok (.aload_n 0, 1) := by decide +kernel
theorem d_X_till_23 : decode y_X_till.2.1 23 = .ok (.getfield 19, 3) := by decide +kernel
theorem d_X_till_26 : decode y_X_till.2.1 26 = .ok (.iload_n 3, 1) := by decide +kernel
theorem d_X_till_27 : decode y_X_till.2.1 27 = .ok (.invokevirtual 218, 3) := by decide +kernel
theorem d_X_till_30 : decode y_X_till.2.1 30 = .ok (.ifCond .ne 17, 3) := by decide +kernel
theorem d_X_till_33 : decode y_X_till.2.1 33 = .ok (.iload_n 1, 1) := by decide +kernel
theorem d_X_till_34 : decode y_X_till.2.1 34 = .ok (.iload_n 2, 1) := by decide +kernel
theorem d_X_till_35 : decode y_X_till.2.1 35 = .ok (.iand, 1) := by decide +kernel
theorem d_X_till_36 : decode y_X_till.2.1 36 = .ok (.iload_n 1, 1) := by decide +kernel
theorem d_X_till_37 : decode y_X_till.2.1 37 = .ok (.iload_n 3, 1) := by decide +kernel
theorem d_X_till_38 : decode y_X_till.2.1 38 = .ok (.iand, 1) := by decide +kernel
theorem d_X_till_39 : decode y_X_till.2.1 39 = .ok (.ior, 1) := by decide +kernel
theorem d_X_till_40 : decode y_X_till.2.1 40 = .ok (.iload_n 2, 1) := by decide +kernel
theorem d_X_till_41 : decode y_X_till.2.1 41 = .ok (.iload_n 3, 1) := by decide +kernel
theorem d_X_till_42 : decode y_X_till.2.1 42 = .ok (.iand, 1) := by decide +kernel
theorem d_X_till_43 : decode y_X_till.2.1 43 = .ok (.ior, 1) := by decide +kernel
theorem d_X_till_44 : decode y_X_till.2.1 44 = .ok (.ifCond .eq 5, 3) := by decide +kernel
theorem d_X_till_47 : decode y_X_till.2.1 47 = .ok (.iconst (-1), 1) := by decide +kernel
theorem d_X_till_48 : decode y_X_till.2.1 48 = .ok (.ireturn, 1) := by decide +kernel
theorem d_X_till_49 : decode y_X_till.2.1 49 = .ok (.aload_n 0, 1) := by decide +kernel
theorem d_X_till_50 : decode y_X_till.2.1 50 = .ok (.aload_n 0, 1) := by decide +kernel
theorem d_X_till_51 : decode y_X_till.2.1 51 = .ok (.getfield 115, 3) := by decide +kernel
theorem d_X_till_54 : decode y_X_till.2.1 54 = .ok (.invokevirtual 377, 3) := by decide +kernel
theorem d_X_till_57 : decode y_X_till.2.1 57 = .ok (.ifCond .ne 6, 3) := by decide +kernel
theorem d_X_till_60 : decode y_X_till.2.1 60 = .ok (.bipush (-3), 2) := by decide +kernel
theorem d_X_till_62 : decode y_X_till.2.1 62 = .ok (.ireturn, 1) := by decide +kernel
theorem d_X_till_63 : decode y_X_till.2.1 63 = .ok (.aload_n 0, 1) := by decide +kernel
theorem d_X_till_64 : decode y_X_till.2.1 64 = .ok (.aload_n 0, 1) := by decide +kernel
theorem d_X_till_65 : decode y_X_till.2.1 65 = .ok (.getfield 26, 3) := by decide +kernel
theorem d_X_till_68 : decode y_X_till.2.1 68 = .ok (.lconst 0, 1) := by decide +kernel
theorem d_X_till_69 : decode y_X_till.2.1 69 = .ok (.iconst 0, 1) := by decide +kernel
theorem d_X_till_70 : decode y_X_till.2.1 70 = .ok (.iload_n 1, 1) := by decide +kernel
theorem d_X_till_71 : decode y_X_till.2.1 71 = .ok (.invokestatic 221, 3) := by decide +kernel
theorem d_X_till_74 : decode y_X_till.2.1 74 = .ok (.iconst 1, 1) := by decide +kernel
theorem d_X_till_75 : decode y_X_till.2.1 75 = .ok (.iload_n 2, 1) := by decide +kernel
theorem d_X_till_76 : decode y_X_till.2.1 76 = .ok (.invokestatic 221, 3) := by decide +kernel
theorem d_X_till_79 : decode y_X_till.2.1 79 = .ok (.iconst 2, 1) := by decide +kernel
theorem d_X_till_80 : decode y_X_till.2.1 80 = .ok (.iload_n 3, 1) := by decide +kernel
theorem d_X_till_81 : decode y_X_till.2.1 81 = .ok (.invokestatic 221, 3) := by decide +kernel
theorem d_X_till_84 : decode y_X_till.2.1 84 = .ok (.invokevirtual 368, 3) := by decide +kernel
theorem d_X_till_87 : decode y_X_till.2.1 87 = .ok (.invokevirtual 353, 3) := by decide +kernel
theorem d_X_till_90 : decode y_X_till.2.1 90 = .ok (.ireturn, 1) := by decide +kernel
theorem d_X_lost_0 : decode y_X_lost.2.1 0 = .ok (.aload_n 0, 1) := by decide +kernel
theorem d_X_lost_1 : decode y_X_lost.2.1 1 = .ok (.getfield 115, 3) := by decide +kernel
theorem d_X_lost_4 : decode y_X_lost.2.1 4 = .ok (.invokestatic 202, 3) := by decide +kernel
theorem d_X_lost_7 : decode y_X_lost.2.1 7 = .ok (.istore_n 1, 1) := by decide +kernel
theorem d_X_lost_8 : decode y_X_lost.2.1 8 = .ok (.iload_n 1, 1) := by decide +kernel
theorem d_X_lost_9 : decode y_X_lost.2.1 9 = .ok (.ifCond .ne 5, 3) := by decide +kernel
theorem d_X_lost_12 : decode y_X_lost.2.1 12 = .ok (.iconst 0, 1) := by decide +kernel
theorem d_X_lost_13 : decode y_X_lost.2.1 13 = .ok (.ireturn, 1) := by decide +kernel
theorem d_X_lost_14 : decode y_X_lost.2.1 14 = .ok (.aload_n 0, 1) := by decide +kernel
theorem d_X_lost_15 : decode y_X_lost.2.1 15 = .ok (.lconst 0, 1) := by decide +kernel
theorem d_X_lost_16 : decode y_X_lost.2.1 16 = .ok (.invokevirtual 377, 3) := by decide +kernel
theorem d_X_lost_19 : decode y_X_lost.2.1 19 = .ok (.ifCond .ne 6, 3) := by decide +kernel
theorem d_X_lost_22 : decode y_X_lost.2.1 22 = .ok (.bipush (-3), 2) := by decide +kernel
theorem d_X_lost_24 : decode y_X_lost.2.1 24 = .ok (.ireturn, 1) := by decide +kernel
theorem d_X_lost_25 : decode y_X_lost.2.1 25 = .ok (.iconst 0, 1) := by decide +kernel
theorem d_X_lost_26 : decode y_X_lost.2.1 26 = .ok (.istore_n 2, 1) := by decide +kernel
theorem d_X_lost_27 : decode y_X_lost.2.1 27 = .ok (.iconst 0, 1) := by decide +kernel
theorem d_X_lost_28 : decode y_X_lost.2.1 28 = .ok (.istore_n 3, 1) := by decide +kernel
theorem d_X_lost_29 : decode y_X_lost.2.1 29 = .ok (.iconst 0, 1) := by decide +kernel
theorem d_X_lost_30 : decode y_X_lost.2.1 30 = .ok (.istore 4, 2) := by decide +kernel
theorem d_X_lost_32 : decode y_X_lost.2.1 32 = .ok (.iload 4, 2) := by decide +kernel
theorem d_X_lost_34 : decode y_X_lost.2.1 34 = .ok (.bipush 12, 2) := by decide +kernel
theorem d_X_lost_36 : decode y_X_lost.2.1 36 = .ok (.if_icmp .ge 72, 3) := by decide +kernel
theorem d_X_lost_39 : decode y_X_lost.2.1 39 = .ok (.iload_n 1, 1) := by decide +kernel
theorem d_X_lost_40 : decode y_X_lost.2.1 40 = .ok (.iload 4, 2) := by decide +kernel
theorem d_X_lost_42 : decode y_X_lost.2.1 42 = .ok (.ishr, 1) := by decide +kernel
theorem d_X_lost_43 : decode y_X_lost.2.1 43 = .ok (.iconst 1, 1) := by decide +kernel
theorem d_X_lost_44 : decode y_X_lost.2.1 44 = .ok (.iand, 1) := by decide +kernel
theorem d_X_lost_45 : decode y_X_lost.2.1 45 = .ok (.ifCond .eq 57, 3) := by decide +kernel
theorem d_X_lost_48 : decode y_X_lost.2.1 48 = .ok (.aload_n 0, 1) := by decide +kernel
theorem d_X_lost_49 : decode y_X_lost.2.1 49 = .ok (.getfield 26, 3) := by decide +kernel
theorem d_X_lost_52 : decode y_X_lost.2.1 52 = .ok (.aload_n 0, 1) := by decide +kernel
theorem d_X_lost_53 : decode y_X_lost.2.1 53 = .ok (.getfield 19, 3) := by decide +kernel
theorem d_X_lost_56 : decode y_X_lost.2.1 56 = .ok (.aload_n 0, 1) := by decide +kernel
theorem d_X_lost_57 : decode y_X_lost.2.1 57 = .ok (.getfield 115, 3) := by decide +kernel
theorem d_X_lost_60 : decode y_X_lost.2.1 60 = .ok (.bipush 60, 2) := by decide +kernel
theorem d_X_lost_62 : decode y_X_lost.2.1 62 = .ok (.iload 4, 2) := by decide +kernel
theorem d_X_lost_64 : decode y_X_lost.2.1 64 = .ok (.iadd, 1) := by decide +kernel
theorem d_X_lost_65 : decode y_X_lost.2.1 65 = .ok (.invokevirtual 206, 3) := by decide +kernel
theorem d_X_lost_68 : decode y_X_lost.2.1 68 = .ok (.invokevirtual 368, 3) := by decide +kernel
theorem d_X_lost_71 : decode y_X_lost.2.1 71 = .ok (.iconst (-1), 1) := by decide +kernel
theorem d_X_lost_72 : decode y_X_lost.2.1 72 = .ok (.if_icmp .ne 13, 3) := by decide +kernel
theorem d_X_lost_75 : decode y_X_lost.2.1 75 = .ok (.iload_n 2, 1) := by decide +kernel
theorem d_X_lost_76 : decode y_X_lost.2.1 76 = .ok (.iconst 1, 1) := by decide +kernel
theorem d_X_lost_77 : decode y_X_lost.2.1 77 = .ok (.iload 4, 2) := by decide +kernel
theorem d_X_lost_79 : decode y_X_lost.2.1 79 = .ok (.ishl, 1) := by decide +kernel
theorem d_X_lost_80 : decode y_X_lost.2.1 80 = .ok (.ior, 1) := by decide +kernel
theorem d_X_lost_81 : decode y_X_lost.2.1 81 = .ok (.istore_n 2, 1) := by decide +kernel
theorem d_X_lost_82 : decode y_X_lost.2.1 82 = .ok (.goto 20, 3) := by decide +kernel
theorem d_X_lost_85 : decode y_X_lost.2.1 85 = .ok (.iload_n 3, 1) := by decide +kernel
theorem d_X_lost_86 : decode y_X_lost.2.1 86 = .ok (.iconst 1, 1) := by decide +kernel
theorem d_X_lost_87 : decode y_X_lost.2.1 87 = .ok (.iload 4, 2) := by decide +kernel
theorem d_X_lost_89 : decode y_X_lost.2.1 89 = .ok (.ishl, 1) := by decide +kernel
theorem d_X_lost_90 : decode y_X_lost.2.1 90 = .ok (.aload_n 0, 1) := by decide +kernel
theorem d_X_lost_91 : decode y_X_lost.2.1 91 = .ok (.getfield 26, 3) := by decide +kernel
theorem d_X_lost_94 : decode y_X_lost.2.1 94 = .ok (.invokevirtual 343, 3) := by decide +kernel
theorem d_X_lost_97 : decode y_X_lost.2.1 97 = .ok (.iconst (-1), 1) := by decide +kernel
theorem d_X_lost_98 : decode y_X_lost.2.1 98 = .ok (.ixor, 1) := by decide +kernel
theorem d_X_lost_99 : decode y_X_lost.2.1 99 = .ok (.iand, 1) := by decide +kernel
theorem d_X_lost_100 : decode y_X_lost.2.1 100 = .ok (.ior, 1) := by decide +kernel
theorem d_X_lost_101 : decode y_X_lost.2.1 101 = .ok (.istore_n 3, 1) := by decide +kernel
theorem d_X_lost_102 : decode y_X_lost.2.1 102 = .ok (.iinc 4 1, 3) := by decide +kernel
theorem d_X_lost_105 : decode y_X_lost.2.1 105 = .ok (.goto (-73), 3) := by decide +kernel
theorem d_X_lost_108 : decode y_X_lost.2.1 108 = .ok (.iconst 0, 1) := by decide +kernel
theorem d_X_lost_109 : decode y_X_lost.2.1 109 = .ok (.istore 4, 2) := by decide +kernel
theorem d_X_lost_111 : decode y_X_lost.2.1 111 = .ok (.iload 4, 2) := by decide +kernel
theorem d_X_lost_113 : decode y_X_lost.2.1 113 = .ok (.bipush 12, 2) := by decide +kernel
theorem d_X_lost_115 : decode y_X_lost.2.1 115 = .ok (.if_icmp .ge 61, 3) := by decide +kernel
theorem d_X_lost_118 : decode y_X_lost.2.1 118 = .ok (.iload_n 2, 1) := by decide +kernel
theorem d_X_lost_119 : decode y_X_lost.2.1 119 = .ok (.iload 4, 2) := by decide +kernel
theorem d_X_lost_121 : decode y_X_lost.2.1 121 = .ok (.ishr, 1) := by decide +kernel
theorem d_X_lost_122 : decode y_X_lost.2.1 122 = .ok (.iconst 1, 1) := by decide +kernel
theorem d_X_lost_123 : decode y_X_lost.2.1 123 = .ok (.iand, 1) := by decide +kernel
theorem d_X_lost_124 : decode y_X_lost.2.1 124 = .ok (.ifCond .eq 46, 3) := by decide +kernel
theorem d_X_lost_127 : decode y_X_lost.2.1 127 = .ok (.aload_n 0, 1) := by decide +kernel
theorem d_X_lost_128 : decode y_X_lost.2.1 128 = .ok (.aload_n 0, 1) := by decide +kernel
theorem d_X_lost_129 : decode y_X_lost.2.1 129 = .ok (.getfield 19, 3) := by decide +kernel
theorem d_X_lost_132 : decode y_X_lost.2.1 132 = .ok (.aload_n 0, 1) := by decide +kernel
theorem d_X_lost_133 : decode y_X_lost.2.1 133 = .ok (.getfield 115, 3) := by decide +kernel
theorem d_X_lost_136 : decode y_X_lost.2.1 136 = .ok (.bipush 60, 2) := by decide +kernel
theorem d_X_lost_138 : decode y_X_lost.2.1 138 = .ok (.iload 4, 2) := by decide +kernel
theorem d_X_lost_140 : decode y_X_lost.2.1 140 = .ok (.iadd, 1) := by decide +kernel
theorem d_X_lost_141 : decode y_X_lost.2.1 141 = .ok (.invokevirtual 206, 3) := by decide +kernel
theorem d_X_lost_144 : decode y_X_lost.2.1 144 = .ok (.invokevirtual 377, 3) := by decide +kernel
theorem d_X_lost_147 : decode y_X_lost.2.1 147 = .ok (.ifCond .ne 6, 3) := by decide +kernel
theorem d_X_lost_150 : decode y_X_lost.2.1 150 = .ok (.bipush (-3), 2) := by decide +kernel
theorem d_X_lost_152 : decode y_X_lost.2.1 152 = .ok (.ireturn, 1) := by decide +kernel
theorem d_X_lost_153 : decode y_X_lost.2.1 153 = .ok (.iload_n 3, 1) := by decide +kernel
theorem d_X_lost_154 : decode y_X_lost.2.1 154 = .ok (.iconst 1, 1) := by decide +kernel
theorem d_X_lost_155 : decode y_X_lost.2.1 155 = .ok (.iload 4, 2) := by decide +kernel
theorem d_X_lost_157 : decode y_X_lost.2.1 157 = .ok (.ishl, 1) := by decide +kernel
theorem d_X_lost_158 : decode y_X_lost.2.1 158 = .ok (.aload_n 0, 1) := by decide +kernel
theorem d_X_lost_159 : decode y_X_lost.2.1 159 = .ok (.getfield 26, 3) := by decide +kernel
theorem d_X_lost_162 : decode y_X_lost.2.1 162 = .ok (.invokevirtual 343, 3) := by decide +kernel
theorem d_X_lost_165 : decode y_X_lost.2.1 165 = .ok (.iconst (-1), 1) := by decide +kernel
theorem d_X_lost_166 : decode y_X_lost.2.1 166 = .ok (.ixor, 1) := by decide +kernel
theorem d_X_lost_167 : decode y_X_lost.2.1 167 = .ok (.iand, 1) := by decide +kernel
theorem d_X_lost_168 : decode y_X_lost.2.1 168 = .ok (.ior, 1) := by decide +kernel
theorem d_X_lost_169 : decode y_X_lost.2.1 169 = .ok (.istore_n 3, 1) := by decide +kernel
theorem d_X_lost_170 : decode y_X_lost.2.1 170 = .ok (.iinc 4 1, 3) := by decide +kernel
theorem d_X_lost_173 : decode y_X_lost.2.1 173 = .ok (.goto (-62), 3) := by decide +kernel
theorem d_X_lost_176 : decode y_X_lost.2.1 176 = .ok (.iload_n 3, 1) := by decide +kernel
theorem d_X_lost_177 : decode y_X_lost.2.1 177 = .ok (.ireturn, 1) := by decide +kernel
theorem d_X_free_0 : decode y_X_free.2.1 0 = .ok (.aload_n 0, 1) := by decide +kernel
theorem d_X_free_1 : decode y_X_free.2.1 1 = .ok (.aload_n 0, 1) := by decide +kernel
theorem d_X_free_2 : decode y_X_free.2.1 2 = .ok (.getfield 115, 3) := by decide +kernel
theorem d_X_free_5 : decode y_X_free.2.1 5 = .ok (.invokevirtual 377, 3) := by decide +kernel
theorem d_X_free_8 : decode y_X_free.2.1 8 = .ok (.ifCond .ne 6, 3) := by decide +kernel
theorem d_X_free_11 : decode y_X_free.2.1 11 = .ok (.bipush (-3), 2) := by decide +kernel
theorem d_X_free_13 : decode y_X_free.2.1 13 = .ok (.ireturn, 1) := by decide +kernel
theorem d_X_free_14 : decode y_X_free.2.1 14 = .ok (.aload_n 0, 1) := by decide +kernel
theorem d_X_free_15 : decode y_X_free.2.1 15 = .ok (.getfield 26, 3) := by decide +kernel
theorem d_X_free_18 : decode y_X_free.2.1 18 = .ok (.invokevirtual 365, 3) := by decide +kernel
theorem d_X_free_21 : decode y_X_free.2.1 21 = .ok (.aload_n 0, 1) := by decide +kernel
theorem d_X_free_22 : decode y_X_free.2.1 22 = .ok (.getfield 26, 3) := by decide +kernel
theorem d_X_free_25 : decode y_X_free.2.1 25 = .ok (.invokevirtual 343, 3) := by decide +kernel
theorem d_X_free_28 : decode y_X_free.2.1 28 = .ok (.istore_n 1, 1) := by decide +kernel
theorem d_X_free_29 : decode y_X_free.2.1 29 = .ok (.aload_n 0, 1) := by decide +kernel
theorem d_X_free_30 : decode y_X_free.2.1 30 = .ok (.iconst 0, 1) := by decide +kernel
theorem d_X_free_31 : decode y_X_free.2.1 31 = .ok (.putfield 209, 3) := by decide +kernel
theorem d_X_free_34 : decode y_X_free.2.1 34 = .ok (.iconst 0, 1) := by decide +kernel
theorem d_X_free_35 : decode y_X_free.2.1 35 = .ok (.istore_n 2, 1) := by decide +kernel
theorem d_X_free_36 : decode y_X_free.2.1 36 = .ok (.iload_n 2, 1) := by decide +kernel
theorem d_X_free_37 : decode y_X_free.2.1 37 = .ok (.aload_n 0, 1) := by decide +kernel
theorem d_X_free_38 : decode y_X_free.2.1 38 = .ok (.getfield 26, 3) := by decide +kernel
theorem d_X_free_41 : decode y_X_free.2.1 41 = .ok (.getfield 349, 3) := by decide +kernel
theorem d_X_free_44 : decode y_X_free.2.1 44 = .ok (.if_icmp .ge 54, 3) := by decide +kernel
theorem d_X_free_47 : decode y_X_free.2.1 47 = .ok (.aload_n 0, 1) := by decide +kernel
theorem d_X_free_48 : decode y_X_free.2.1 48 = .ok (.getfield 26, 3) := by decide +kernel
theorem d_X_free_51 : decode y_X_free.2.1 51 = .ok (.getfield 371, 3) := by decide +kernel
theorem d_X_free_54 : decode y_X_free.2.1 54 = .ok (.iload_n 2, 1) := by decide +kernel
theorem d_X_free_55 : decode y_X_free.2.1 55 = .ok (.iaload, 1) := by decide +kernel
theorem d_X_free_56 : decode y_X_free.2.1 56 = .ok (.iload_n 1, 1) := by decide +kernel
theorem d_X_free_57 : decode y_X_free.2.1 57 = .ok (.if_icmp .eq 35, 3) := by decide +kernel
theorem d_X_free_60 : decode y_X_free.2.1 60 = .ok (.aload_n 0, 1) := by decide +kernel
theorem d_X_free_61 : decode y_X_free.2.1 61 = .ok (.aload_n 0, 1) := by decide +kernel
theorem d_X_free_62 : decode y_X_free.2.1 62 = .ok (.getfield 26, 3) := by decide +kernel
theorem d_X_free_65 : decode y_X_free.2.1 65 = .ok (.getfield 356, 3) := by decide +kernel
theorem d_X_free_68 : decode y_X_free.2.1 68 = .ok (.iload_n 2, 1) := by decide +kernel
theorem d_X_free_69 : decode y_X_free.2.1 69 = .ok (.iaload, 1) := by decide +kernel
theorem d_X_free_70 : decode y_X_free.2.1 70 = .ok (.invokevirtual 215, 3) := by decide +kernel
theorem d_X_free_73 : decode y_X_free.2.1 73 = .ok (.aload_n 0, 1) := by decide +kernel
theorem d_X_free_74 : decode y_X_free.2.1 74 = .ok (.iload_n 1, 1) := by decide +kernel
theorem d_X_free_75 : decode y_X_free.2.1 75 = .ok (.aload_n 0, 1) := by decide +kernel
theorem d_X_free_76 : decode y_X_free.2.1 76 = .ok (.getfield 26, 3) := by decide +kernel
theorem d_X_free_79 : decode y_X_free.2.1 79 = .ok (.getfield 371, 3) := by decide +kernel
theorem d_X_free_82 : decode y_X_free.2.1 82 = .ok (.iload_n 2, 1) := by decide +kernel
theorem d_X_free_83 : decode y_X_free.2.1 83 = .ok (.iaload, 1) := by decide +kernel
theorem d_X_free_84 : decode y_X_free.2.1 84 = .ok (.iconst (-1), 1) := by decide +kernel
theorem d_X_free_85 : decode y_X_free.2.1 85 = .ok (.ixor, 1) := by decide +kernel
theorem d_X_free_86 : decode y_X_free.2.1 86 = .ok (.iand, 1) := by decide +kernel
theorem d_X_free_87 : decode y_X_free.2.1 87 = .ok (.invokevirtual 215, 3) := by decide +kernel
theorem d_X_free_90 : decode y_X_free.2.1 90 = .ok (.iconst 0, 1) := by decide +kernel
theorem d_X_free_91 : decode y_X_free.2.1 91 = .ok (.ireturn, 1) := by decide +kernel
theorem d_X_free_92 : decode y_X_free.2.1 92 = .ok (.iinc 2 1, 3) := by decide +kernel
theorem d_X_free_95 : decode y_X_free.2.1 95 = .ok (.goto (-59), 3) := by decide +kernel
theorem d_X_free_98 : decode y_X_free.2.1 98 = .ok (.iconst 1, 1) := by decide +kernel
theorem d_X_free_99 : decode y_X_free.2.1 99 = .ok (.ireturn, 1) := by decide +kernel
theorem d_X_keep_0 : decode y_X_keep.2.1 0 = .ok (.iload_n 1, 1) := by decide +kernel
theorem d_X_keep_1 : decode y_X_keep.2.1 1 = .ok (.ifCond .lt 8, 3) := by decide +kernel
theorem d_X_keep_4 : decode y_X_keep.2.1 4 = .ok (.iload_n 1, 1) := by decide +kernel
theorem d_X_keep_5 : decode y_X_keep.2.1 5 = .ok (.iconst 3, 1) := by decide +kernel
theorem d_X_keep_6 : decode y_X_keep.2.1 6 = .ok (.if_icmp .lt 5, 3) := by decide +kernel
theorem d_X_keep_9 : decode y_X_keep.2.1 9 = .ok (.iconst 0, 1) := by decide +kernel
theorem d_X_keep_10 : decode y_X_keep.2.1 10 = .ok (.ireturn, 1) := by decide +kernel
theorem d_X_keep_11 : decode y_X_keep.2.1 11 = .ok (.aload_n 0, 1) := by decide +kernel
theorem d_X_keep_12 : decode y_X_keep.2.1 12 = .ok (.getfield 52, 3) := by decide +kernel
theorem d_X_keep_15 : decode y_X_keep.2.1 15 = .ok (.iload_n 1, 1) := by decide +kernel
theorem d_X_keep_16 : decode y_X_keep.2.1 16 = .ok (.aaload, 1) := by decide +kernel
theorem d_X_keep_17 : decode y_X_keep.2.1 17 = .ok (.astore_n 2, 1) := by decide +kernel
theorem d_X_keep_18 : decode y_X_keep.2.1 18 = .ok (.aload_n 2, 1) := by decide +kernel
theorem d_X_keep_19 : decode y_X_keep.2.1 19 = .ok (.iconst 1, 1) := by decide +kernel
theorem d_X_keep_20 : decode y_X_keep.2.1 20 = .ok (.putfield 381, 3) := by decide +kernel
theorem d_X_keep_23 : decode y_X_keep.2.1 23 = .ok (.aload_n 2, 1) := by decide +kernel
theorem d_X_keep_24 : decode y_X_keep.2.1 24 = .ok (.aload_n 0, 1) := by decide +kernel
theorem d_X_keep_25 : decode y_X_keep.2.1 25 = .ok (.getfield 115, 3) := by decide +kernel
theorem d_X_keep_28 : decode y_X_keep.2.1 28 = .ok (.putfield 385, 3) := by decide +kernel
theorem d_X_keep_31 : decode y_X_keep.2.1 31 = .ok (.aload_n 2, 1) := by decide +kernel
theorem d_X_keep_32 : decode y_X_keep.2.1 32 = .ok (.aload_n 0, 1) := by decide +kernel
theorem d_X_keep_33 : decode y_X_keep.2.1 33 = .ok (.getfield 265, 3) := by decide +kernel
theorem d_X_keep_36 : decode y_X_keep.2.1 36 = .ok (.putfield 388, 3) := by decide +kernel
theorem d_X_keep_39 : decode y_X_keep.2.1 39 = .ok (.aload_n 2, 1) := by decide +kernel
theorem d_X_keep_40 : decode y_X_keep.2.1 40 = .ok (.aload_n 0, 1) := by decide +kernel
theorem d_X_keep_41 : decode y_X_keep.2.1 41 = .ok (.getfield 287, 3) := by decide +kernel
theorem d_X_keep_44 : decode y_X_keep.2.1 44 = .ok (.putfield 391, 3) := by decide +kernel
theorem d_X_keep_47 : decode y_X_keep.2.1 47 = .ok (.aload_n 2, 1) := by decide +kernel
theorem d_X_keep_48 : decode y_X_keep.2.1 48 = .ok (.aload_n 0, 1) := by decide +kernel
theorem d_X_keep_49 : decode y_X_keep.2.1 49 = .ok (.getfield 229, 3) := by decide +kernel
theorem d_X_keep_52 : decode y_X_keep.2.1 52 = .ok (.putfield 392, 3) := by decide +kernel
theorem d_X_keep_55 : decode y_X_keep.2.1 55 = .ok (.aload_n 0, 1) := by decide +kernel
theorem d_X_keep_56 : decode y_X_keep.2.1 56 = .ok (.getfield 56, 3) := by decide +kernel
theorem d_X_keep_59 : decode y_X_keep.2.1 59 = .ok (.iconst 0, 1) := by decide +kernel
theorem d_X_keep_60 : decode y_X_keep.2.1 60 = .ok (.aload_n 2, 1) := by decide +kernel
theorem d_X_keep_61 : decode y_X_keep.2.1 61 = .ok (.getfield 394, 3) := by decide +kernel
theorem d_X_keep_64 : decode y_X_keep.2.1 64 = .ok (.iconst 0, 1) := by decide +kernel
theorem d_X_keep_65 : decode y_X_keep.2.1 65 = .ok (.bipush 60, 2) := by decide +kernel
theorem d_X_keep_67 : decode y_X_keep.2.1 67 = .ok (.invokestatic 395, 3) := by decide +kernel
theorem d_X_keep_70 : decode y_X_keep.2.1 70 = .ok (.iconst 0, 1) := by decide +kernel
theorem d_X_keep_71 : decode y_X_keep.2.1 71 = .ok (.istore_n 3, 1) := by decide +kernel
theorem d_X_keep_72 : decode y_X_keep.2.1 72 = .ok (.iload_n 3, 1) := by decide +kernel
theorem d_X_keep_73 : decode y_X_keep.2.1 73 = .ok (.bipush 12, 2) := by decide +kernel
theorem d_X_keep_75 : decode y_X_keep.2.1 75 = .ok (.if_icmp .ge 27, 3) := by decide +kernel
theorem d_X_keep_78 : decode y_X_keep.2.1 78 = .ok (.aload_n 2, 1) := by decide +kernel
theorem d_X_keep_79 : decode y_X_keep.2.1 79 = .ok (.getfield 401, 3) := by decide +kernel
theorem d_X_keep_82 : decode y_X_keep.2.1 82 = .ok (.iload_n 3, 1) := by decide +kernel
theorem d_X_keep_83 : decode y_X_keep.2.1 83 = .ok (.aload_n 0, 1) := by decide +kernel
theorem d_X_keep_84 : decode y_X_keep.2.1 84 = .ok (.getfield 19, 3) := by decide +kernel
theorem d_X_keep_87 : decode y_X_keep.2.1 87 = .ok (.getfield 102, 3) := by decide +kernel
theorem d_X_keep_90 : decode y_X_keep.2.1 90 = .ok (.iload_n 3, 1) := by decide +kernel
theorem d_X_keep_91 : decode y_X_keep.2.1 91 = .ok (.aaload, 1) := by decide +kernel
theorem d_X_keep_92 : decode y_X_keep.2.1 92 = .ok (.getfield 166, 3) := by decide +kernel
theorem d_X_keep_95 : decode y_X_keep.2.1 95 = .ok (.iastore, 1) := by decide +kernel
theorem d_X_keep_96 : decode y_X_keep.2.1 96 = .ok (.iinc 3 1, 3) := by decide +kernel
theorem d_X_keep_99 : decode y_X_keep.2.1 99 = .ok (.goto (-27), 3) := by decide +kernel
theorem d_X_keep_102 : decode y_X_keep.2.1 102 = .ok (.iconst 0, 1) := by decide +kernel
theorem d_X_keep_103 : decode y_X_keep.2.1 103 = .ok (.istore_n 3, 1) := by decide +kernel
theorem d_X_keep_104 : decode y_X_keep.2.1 104 = .ok (.iload_n 3, 1) := by decide +kernel
theorem d_X_keep_105 : decode y_X_keep.2.1 105 = .ok (.bipush 6, 2) := by decide +kernel
theorem d_X_keep_107 : decode y_X_keep.2.1 107 = .ok (.if_icmp .ge 39, 3) := by decide +kernel
theorem d_X_keep_110 : decode y_X_keep.2.1 110 = .ok (.aload_n 2, 1) := by decide +kernel
theorem d_X_keep_111 : decode y_X_keep.2.1 111 = .ok (.getfield 403, 3) := by decide +kernel
theorem d_X_keep_114 : decode y_X_keep.2.1 114 = .ok (.iload_n 3, 1) := by decide +kernel
theorem d_X_keep_115 : decode y_X_keep.2.1 115 = .ok (.aload_n 0, 1) := by decide +kernel
theorem d_X_keep_116 : decode y_X_keep.2.1 116 = .ok (.getfield 46, 3) := by decide +kernel
theorem d_X_keep_119 : decode y_X_keep.2.1 119 = .ok (.iload_n 3, 1) := by decide +kernel
theorem d_X_keep_120 : decode y_X_keep.2.1 120 = .ok (.aaload, 1) := by decide +kernel
theorem d_X_keep_121 : decode y_X_keep.2.1 121 = .ok (.getfield 239, 3) := by decide +kernel
theorem d_X_keep_124 : decode y_X_keep.2.1 124 = .ok (.iastore, 1) := by decide +kernel
theorem d_X_keep_125 : decode y_X_keep.2.1 125 = .ok (.aload_n 2, 1) := by decide +kernel
theorem d_X_keep_126 : decode y_X_keep.2.1 126 = .ok (.getfield 405, 3) := by decide +kernel
theorem d_X_keep_129 : decode y_X_keep.2.1 129 = .ok (.iload_n 3, 1) := by decide +kernel
theorem d_X_keep_130 : decode y_X_keep.2.1 130 = .ok (.aload_n 0, 1) := by decide +kernel
theorem d_X_keep_131 : decode y_X_keep.2.1 131 = .ok (.getfield 46, 3) := by decide +kernel
theorem d_X_keep_134 : decode y_X_keep.2.1 134 = .ok (.iload_n 3, 1) := by decide +kernel
theorem d_X_keep_135 : decode y_X_keep.2.1 135 = .ok (.aaload, 1) := by decide +kernel
theorem d_X_keep_136 : decode y_X_keep.2.1 136 = .ok (.getfield 246, 3) := by decide +kernel
theorem d_X_keep_139 : decode y_X_keep.2.1 139 = .ok (.iastore, 1) := by decide +kernel
theorem d_X_keep_140 : decode y_X_keep.2.1 140 = .ok (.iinc 3 1, 3) := by decide +kernel
theorem d_X_keep_143 : decode y_X_keep.2.1 143 = .ok (.goto (-39), 3) := by decide +kernel
theorem d_X_keep_146 : decode y_X_keep.2.1 146 = .ok (.iconst 1, 1) := by decide +kernel
theorem d_X_keep_147 : decode y_X_keep.2.1 147 = .ok (.ireturn, 1) := by decide +kernel
theorem d_X_again_0 : decode y_X_again.2.1 0 = .ok (.iload_n 1, 1) := by decide +kernel
theorem d_X_again_1 : decode y_X_again.2.1 1 = .ok (.ifCond .lt 20, 3) := by decide +kernel
theorem d_X_again_4 : decode y_X_again.2.1 4 = .ok (.iload_n 1, 1) := by decide +kernel
theorem d_X_again_5 : decode y_X_again.2.1 5 = .ok (.iconst 3, 1) := by decide +kernel
theorem d_X_again_6 : decode y_X_again.2.1 6 = .ok (.if_icmp .ge 15, 3) := by decide +kernel
theorem d_X_again_9 : decode y_X_again.2.1 9 = .ok (.aload_n 0, 1) := by decide +kernel
theorem d_X_again_10 : decode y_X_again.2.1 10 = .ok (.getfield 52, 3) := by decide +kernel
theorem d_X_again_13 : decode y_X_again.2.1 13 = .ok (.iload_n 1, 1) := by decide +kernel
theorem d_X_again_14 : decode y_X_again.2.1 14 = .ok (.aaload, 1) := by decide +kernel
theorem d_X_again_15 : decode y_X_again.2.1 15 = .ok (.getfield 381, 3) := by decide +kernel
theorem d_X_again_18 : decode y_X_again.2.1 18 = .ok (.ifCond .ne 5, 3) := by decide +kernel
theorem d_X_again_21 : decode y_X_again.2.1 21 = .ok (.iconst 0, 1) := by decide +kernel
theorem d_X_again_22 : decode y_X_again.2.1 22 = .ok (.ireturn, 1) := by decide +kernel
theorem d_X_again_23 : decode y_X_again.2.1 23 = .ok (.aload_n 0, 1) := by decide +kernel
theorem d_X_again_24 : decode y_X_again.2.1 24 = .ok (.getfield 52, 3) := by decide +kernel
theorem d_X_again_27 : decode y_X_again.2.1 27 = .ok (.iload_n 1, 1) := by decide +kernel
theorem d_X_again_28 : decode y_X_again.2.1 28 = .ok (.aaload, 1) := by decide +kernel
theorem d_X_again_29 : decode y_X_again.2.1 29 = .ok (.astore_n 2, 1) := by decide +kernel
theorem d_X_again_30 : decode y_X_again.2.1 30 = .ok (.aload_n 0, 1) := by decide +kernel
theorem d_X_again_31 : decode y_X_again.2.1 31 = .ok (.aload_n 2, 1) := by decide +kernel
theorem d_X_again_32 : decode y_X_again.2.1 32 = .ok (.getfield 385, 3) := by decide +kernel
theorem d_X_again_35 : decode y_X_again.2.1 35 = .ok (.putfield 115, 3) := by decide +kernel
theorem d_X_again_38 : decode y_X_again.2.1 38 = .ok (.aload_n 0, 1) := by decide +kernel
theorem d_X_again_39 : decode y_X_again.2.1 39 = .ok (.aload_n 2, 1) := by decide +kernel
theorem d_X_again_40 : decode y_X_again.2.1 40 = .ok (.getfield 388, 3) := by decide +kernel
theorem d_X_again_43 : decode y_X_again.2.1 43 = .ok (.putfield 265, 3) := by decide +kernel
theorem d_X_again_46 : decode y_X_again.2.1 46 = .ok (.aload_n 0, 1) := by decide +kernel
theorem d_X_again_47 : decode y_X_again.2.1 47 = .ok (.aload_n 2, 1) := by decide +kernel
theorem d_X_again_48 : decode y_X_again.2.1 48 = .ok (.getfield 391, 3) := by decide +kernel
theorem d_X_again_51 : decode y_X_again.2.1 51 = .ok (.putfield 287, 3) := by decide +kernel
theorem d_X_again_54 : decode y_X_again.2.1 54 = .ok (.aload_n 2, 1) := by decide +kernel
theorem d_X_again_55 : decode y_X_again.2.1 55 = .ok (.getfield 394, 3) := by decide +kernel
theorem d_X_again_58 : decode y_X_again.2.1 58 = .ok (.iconst 0, 1) := by decide +kernel
theorem d_X_again_59 : decode y_X_again.2.1 59 = .ok (.aload_n 0, 1) := by decide +kernel
theorem d_X_again_60 : decode y_X_again.2.1 60 = .ok (.getfield 56, 3) := by decide +kernel
theorem d_X_again_63 : decode y_X_again.2.1 63 = .ok (.iconst 0, 1) := by decide +kernel
theorem d_X_again_64 : decode y_X_again.2.1 64 = .ok (.bipush 60, 2) := by decide +kernel
theorem d_X_again_66 : decode y_X_again.2.1 66 = .ok (.invokestatic 395, 3) := by decide +kernel
theorem d_X_again_69 : decode y_X_again.2.1 69 = .ok (.iconst 0, 1) := by decide +kernel
theorem d_X_again_70 : decode y_X_again.2.1 70 = .ok (.istore_n 3, 1) := by decide +kernel
theorem d_X_again_71 : decode y_X_again.2.1 71 = .ok (.iload_n 3, 1) := by decide +kernel
theorem d_X_again_72 : decode y_X_again.2.1 72 = .ok (.bipush 12, 2) := by decide +kernel
theorem d_X_again_74 : decode y_X_again.2.1 74 = .ok (.if_icmp .ge 40, 3) := by decide +kernel
theorem d_X_again_77 : decode y_X_again.2.1 77 = .ok (.aload_n 0, 1) := by decide +kernel
theorem d_X_again_78 : decode y_X_again.2.1 78 = .ok (.getfield 19, 3) := by decide +kernel
theorem d_X_again_81 : decode y_X_again.2.1 81 = .ok (.getfield 102, 3) := by decide +kernel
theorem d_X_again_84 : decode y_X_again.2.1 84 = .ok (.iload_n 3, 1) := by decide +kernel
theorem d_X_again_85 : decode y_X_again.2.1 85 = .ok (.aaload, 1) := by decide +kernel
theorem d_X_again_86 : decode y_X_again.2.1 86 = .ok (.aload_n 2, 1) := by decide +kernel
theorem d_X_again_87 : decode y_X_again.2.1 87 = .ok (.getfield 401, 3) := by decide +kernel
theorem d_X_again_90 : decode y_X_again.2.1 90 = .ok (.iload_n 3, 1) := by decide +kernel
theorem d_X_again_91 : decode y_X_again.2.1 91 = .ok (.iaload, 1) := by decide +kernel
theorem d_X_again_92 : decode y_X_again.2.1 92 = .ok (.putfield 166, 3) := by decide +kernel
theorem d_X_again_95 : decode y_X_again.2.1 95 = .ok (.aload_n 0, 1) := by decide +kernel
theorem d_X_again_96 : decode y_X_again.2.1 96 = .ok (.getfield 19, 3) := by decide +kernel
theorem d_X_again_99 : decode y_X_again.2.1 99 = .ok (.getfield 102, 3) := by decide +kernel
theorem d_X_again_102 : decode y_X_again.2.1 102 = .ok (.iload_n 3, 1) := by decide +kernel
theorem d_X_again_103 : decode y_X_again.2.1 103 = .ok (.aaload, 1) := by decide +kernel
theorem d_X_again_104 : decode y_X_again.2.1 104 = .ok (.iconst 0, 1) := by decide +kernel
theorem d_X_again_105 : decode y_X_again.2.1 105 = .ok (.putfield 169, 3) := by decide +kernel
theorem d_X_again_108 : decode y_X_again.2.1 108 = .ok (.iinc 3 1, 3) := by decide +kernel
theorem d_X_again_111 : decode y_X_again.2.1 111 = .ok (.goto (-40), 3) := by decide +kernel
theorem d_X_again_114 : decode y_X_again.2.1 114 = .ok (.iconst 0, 1) := by decide +kernel
theorem d_X_again_115 : decode y_X_again.2.1 115 = .ok (.istore_n 3, 1) := by decide +kernel
theorem d_X_again_116 : decode y_X_again.2.1 116 = .ok (.iload_n 3, 1) := by decide +kernel
theorem d_X_again_117 : decode y_X_again.2.1 117 = .ok (.aload_n 0, 1) := by decide +kernel
theorem d_X_again_118 : decode y_X_again.2.1 118 = .ok (.getfield 229, 3) := by decide +kernel
theorem d_X_again_121 : decode y_X_again.2.1 121 = .ok (.if_icmp .ge 96, 3) := by decide +kernel
theorem d_X_again_124 : decode y_X_again.2.1 124 = .ok (.iload_n 3, 1) := by decide +kernel
theorem d_X_again_125 : decode y_X_again.2.1 125 = .ok (.aload_n 2, 1) := by decide +kernel
theorem d_X_again_126 : decode y_X_again.2.1 126 = .ok (.getfield 392, 3) := by decide +kernel
theorem d_X_again_129 : decode y_X_again.2.1 129 = .ok (.if_icmp .lt 7, 3) := by decide +kernel
theorem d_X_again_132 : decode y_X_again.2.1 132 = .ok (.iconst 1, 1) := by decide +kernel
theorem d_X_again_133 : decode y_X_again.2.1 133 = .ok (.goto 4, 3) := by decide +kernel
theorem d_X_again_136 : decode y_X_again.2.1 136 = .ok (.iconst 0, 1) := by decide +kernel
theorem d_X_again_137 : decode y_X_again.2.1 137 = .ok (.istore 4, 2) := by decide +kernel
theorem d_X_again_139 : decode y_X_again.2.1 139 = .ok (.aload_n 0, 1) := by decide +kernel
theorem d_X_again_140 : decode y_X_again.2.1 140 = .ok (.getfield 46, 3) := by decide +kernel
theorem d_X_again_143 : decode y_X_again.2.1 143 = .ok (.iload_n 3, 1) := by decide +kernel
theorem d_X_again_144 : decode y_X_again.2.1 144 = .ok (.aaload, 1) := by decide +kernel
theorem d_X_again_145 : decode y_X_again.2.1 145 = .ok (.iload 4, 2) := by decide +kernel
theorem d_X_again_147 : decode y_X_again.2.1 147 = .ok (.ifCond .eq 15, 3) := by decide +kernel
theorem d_X_again_150 : decode y_X_again.2.1 150 = .ok (.aload_n 0, 1) := by decide +kernel
theorem d_X_again_151 : decode y_X_again.2.1 151 = .ok (.getfield 46, 3) := by decide +kernel
theorem d_X_again_154 : decode y_X_again.2.1 154 = .ok (.iload_n 3, 1) := by decide +kernel
theorem d_X_again_155 : decode y_X_again.2.1 155 = .ok (.aaload, 1) := by decide +kernel
theorem d_X_again_156 : decode y_X_again.2.1 156 = .ok (.getfield 407, 3) := by decide +kernel
theorem d_X_again_159 : decode y_X_again.2.1 159 = .ok (.goto 9, 3) := by decide +kernel
theorem d_X_again_162 : decode y_X_again.2.1 162 = .ok (.aload_n 2, 1) := by decide +kernel
theorem d_X_again_163 : decode y_X_again.2.1 163 = .ok (.getfield 403, 3) := by decide +kernel
theorem d_X_again_166 : decode y_X_again.2.1 166 = .ok (.iload_n 3, 1) := by decide +kernel
theorem d_X_again_167 : decode y_X_again.2.1 167 = .ok (.iaload, 1) := by decide +kernel
theorem d_X_again_168 : decode y_X_again.2.1 168 = .ok (.putfield 239, 3) := by decide +kernel
theorem d_X_again_171 : decode y_X_again.2.1 171 = .ok (.aload_n 0, 1) := by decide +kernel
theorem d_X_again_172 : decode y_X_again.2.1 172 = .ok (.getfield 46, 3) := by decide +kernel
theorem d_X_again_175 : decode y_X_again.2.1 175 = .ok (.iload_n 3, 1) := by decide +kernel
theorem d_X_again_176 : decode y_X_again.2.1 176 = .ok (.aaload, 1) := by decide +kernel
theorem d_X_again_177 : decode y_X_again.2.1 177 = .ok (.iload 4, 2) := by decide +kernel
theorem d_X_again_179 : decode y_X_again.2.1 179 = .ok (.ifCond .eq 7, 3) := by decide +kernel
theorem d_X_again_182 : decode y_X_again.2.1 182 = .ok (.iconst 0, 1) := by decide +kernel
theorem d_X_again_183 : decode y_X_again.2.1 183 = .ok (.goto 9, 3) := by decide +kernel
theorem d_X_again_186 : decode y_X_again.2.1 186 = .ok (.aload_n 2, 1) := by decide +kernel
theorem d_X_again_187 : decode y_X_again.2.1 187 = .ok (.getfield 405, 3) := by decide +kernel
theorem d_X_again_190 : decode y_X_again.2.1 190 = .ok (.iload_n 3, 1) := by decide +kernel
theorem d_X_again_191 : decode y_X_again.2.1 191 = .ok (.iaload, 1) := by decide +kernel
theorem d_X_again_192 : decode y_X_again.2.1 192 = .ok (.putfield 246, 3) := by decide +kernel
theorem d_X_again_195 : decode y_X_again.2.1 195 = .ok (.aload_n 0, 1) := by decide +kernel
theorem d_X_again_196 : decode y_X_again.2.1 196 = .ok (.getfield 19, 3) := by decide +kernel
theorem d_X_again_199 : decode y_X_again.2.1 199 = .ok (.aload_n 0, 1) := by decide +kernel
theorem d_X_again_200 : decode y_X_again.2.1 200 = .ok (.getfield 46, 3) := by decide +kernel
theorem d_X_again_203 : decode y_X_again.2.1 203 = .ok (.iload_n 3, 1) := by decide +kernel
theorem d_X_again_204 : decode y_X_again.2.1 204 = .ok (.aaload, 1) := by decide +kernel
theorem d_X_again_205 : decode y_X_again.2.1 205 = .ok (.getfield 246, 3) := by decide +kernel
theorem d_X_again_208 : decode y_X_again.2.1 208 = .ok (.invokevirtual 410, 3) := by decide +kernel
theorem d_X_again_211 : decode y_X_again.2.1 211 = .ok (.iinc 3 1, 3) := by decide +kernel
theorem d_X_again_214 : decode y_X_again.2.1 214 = .ok (.goto (-98), 3) := by decide +kernel
theorem d_X_again_217 : decode y_X_again.2.1 217 = .ok (.aload_n 0, 1) := by decide +kernel
theorem d_X_again_218 : decode y_X_again.2.1 218 = .ok (.getfield 19, 3) := by decide +kernel
theorem d_X_again_221 : decode y_X_again.2.1 221 = .ok (.invokevirtual 112, 3) := by decide +kernel
theorem d_X_again_224 : decode y_X_again.2.1 224 = .ok (.iconst 1, 1) := by decide +kernel
theorem d_X_again_225 : decode y_X_again.2.1 225 = .ok (.ireturn, 1) := by decide +kernel
theorem d_X_count_0 : decode y_X_count.2.1 0 = .ok (.iload_n 1, 1) := by decide +kernel
theorem d_X_count_1 : decode y_X_count.2.1 1 = .ok (.tableswitch 87 0 6 #[43, 51, 56, 61, 69, 74, 79], 43) := by decide +kernel
theorem d_X_count_44 : decode y_X_count.2.1 44 = .ok (.aload_n 0, 1) := by decide +kernel
theorem d_X_count_45 : decode y_X_count.2.1 45 = .ok (.getfield 19, 3) := by decide +kernel
theorem d_X_count_48 : decode y_X_count.2.1 48 = .ok (.getfield 88, 3) := by decide +kernel
theorem d_X_count_51 : decode y_X_count.2.1 51 = .ok (.ireturn, 1) := by decide +kernel
theorem d_X_count_52 : decode y_X_count.2.1 52 = .ok (.aload_n 0, 1) := by decide +kernel
theorem d_X_count_53 : decode y_X_count.2.1 53 = .ok (.getfield 229, 3) := by decide +kernel
theorem d_X_count_56 : decode y_X_count.2.1 56 = .ok (.ireturn, 1) := by decide +kernel
theorem d_X_count_57 : decode y_X_count.2.1 57 = .ok (.aload_n 0, 1) := by decide +kernel
theorem d_X_count_58 : decode y_X_count.2.1 58 = .ok (.getfield 265, 3) := by decide +kernel
theorem d_X_count_61 : decode y_X_count.2.1 61 = .ok (.ireturn, 1) := by decide +kernel
theorem d_X_count_62 : decode y_X_count.2.1 62 = .ok (.aload_n 0, 1) := by decide +kernel
theorem d_X_count_63 : decode y_X_count.2.1 63 = .ok (.getfield 115, 3) := by decide +kernel
theorem d_X_count_66 : decode y_X_count.2.1 66 = .ok (.invokestatic 202, 3) := by decide +kernel
theorem d_X_count_69 : decode y_X_count.2.1 69 = .ok (.ireturn, 1) := by decide +kernel
theorem d_X_count_70 : decode y_X_count.2.1 70 = .ok (.aload_n 0, 1) := by decide +kernel
theorem d_X_count_71 : decode y_X_count.2.1 71 = .ok (.invokevirtual 290, 3) := by decide +kernel
theorem d_X_count_74 : decode y_X_count.2.1 74 = .ok (.ireturn, 1) := by decide +kernel
theorem d_X_count_75 : decode y_X_count.2.1 75 = .ok (.aload_n 0, 1) := by decide +kernel
theorem d_X_count_76 : decode y_X_count.2.1 76 = .ok (.getfield 209, 3) := by decide +kernel
theorem d_X_count_79 : decode y_X_count.2.1 79 = .ok (.ireturn, 1) := by decide +kernel
theorem d_X_count_80 : decode y_X_count.2.1 80 = .ok (.aload_n 0, 1) := by decide +kernel
theorem d_X_count_81 : decode y_X_count.2.1 81 = .ok (.getfield 12, 3) := by decide +kernel
theorem d_X_count_84 : decode y_X_count.2.1 84 = .ok (.getfield 127, 3) := by decide +kernel
theorem d_X_count_87 : decode y_X_count.2.1 87 = .ok (.ireturn, 1) := by decide +kernel
theorem d_X_count_88 : decode y_X_count.2.1 88 = .ok (.iconst (-1), 1) := by decide +kernel
theorem d_X_count_89 : decode y_X_count.2.1 89 = .ok (.ireturn, 1) := by decide +kernel
theorem d_X_row_0 : decode y_X_row.2.1 0 = .ok (.iload_n 1, 1) := by decide +kernel
theorem d_X_row_1 : decode y_X_row.2.1 1 = .ok (.ifCond .lt 11, 3) := by decide +kernel
theorem d_X_row_4 : decode y_X_row.2.1 4 = .ok (.iload_n 1, 1) := by decide +kernel
theorem d_X_row_5 : decode y_X_row.2.1 5 = .ok (.aload_n 0, 1) := by decide +kernel
theorem d_X_row_6 : decode y_X_row.2.1 6 = .ok (.getfield 209, 3) := by decide +kernel
theorem d_X_row_9 : decode y_X_row.2.1 9 = .ok (.if_icmp .lt 14, 3) := by decide +kernel
theorem d_X_row_12 : decode y_X_row.2.1 12 = .ok (.new 159, 3) := by decide +kernel
theorem d_X_row_15 : decode y_X_row.2.1 15 = .ok (.dup, 1) := by decide +kernel
theorem d_X_row_16 : decode y_X_row.2.1 16 = .ok (.ldc_w 413, 3) := by decide +kernel
theorem d_X_row_19 : decode y_X_row.2.1 19 = .ok (.invokespecial 163, 3) := by decide +kernel
theorem d_X_row_22 : decode y_X_row.2.1 22 = .ok (.athrow, 1) := by decide +kernel
theorem d_X_row_23 : decode y_X_row.2.1 23 = .ok (.aload_n 0, 1) := by decide +kernel
theorem d_X_row_24 : decode y_X_row.2.1 24 = .ok (.getfield 60, 3) := by decide +kernel
theorem d_X_row_27 : decode y_X_row.2.1 27 = .ok (.iload_n 1, 1) := by decide +kernel
theorem d_X_row_28 : decode y_X_row.2.1 28 = .ok (.iaload, 1) := by decide +kernel
theorem d_X_row_29 : decode y_X_row.2.1 29 = .ok (.ireturn, 1) := by decide +kernel
theorem d_X_tell_0 : decode y_X_tell.2.1 0 = .ok (.aload_n 0, 1) := by decide +kernel
theorem d_X_tell_1 : decode y_X_tell.2.1 1 = .ok (.getfield 209, 3) := by decide +kernel
theorem d_X_tell_4 : decode y_X_tell.2.1 4 = .ok (.aload_n 0, 1) := by decide +kernel
theorem d_X_tell_5 : decode y_X_tell.2.1 5 = .ok (.getfield 60, 3) := by decide +kernel
theorem d_X_tell_8 : decode y_X_tell.2.1 8 = .ok (.arraylength, 1) := by decide +kernel
theorem d_X_tell_9 : decode y_X_tell.2.1 9 = .ok (.if_icmp .ge 23, 3) := by decide +kernel
theorem d_X_tell_12 : decode y_X_tell.2.1 12 = .ok (.aload_n 0, 1) := by decide +kernel
theorem d_X_tell_13 : decode y_X_tell.2.1 13 = .ok (.getfield 60, 3) := by decide +kernel
theorem d_X_tell_16 : decode y_X_tell.2.1 16 = .ok (.aload_n 0, 1) := by decide +kernel
theorem d_X_tell_17 : decode y_X_tell.2.1 17 = .ok (.getfield 209, 3) := by decide +kernel
theorem d_X_tell_20 : decode y_X_tell.2.1 20 = .ok (.iload_n 1, 1) := by decide +kernel
theorem d_X_tell_21 : decode y_X_tell.2.1 21 = .ok (.iastore, 1) := by decide +kernel
theorem d_X_tell_22 : decode y_X_tell.2.1 22 = .ok (.aload_n 0, 1) := by decide +kernel
theorem d_X_tell_23 : decode y_X_tell.2.1 23 = .ok (.dup, 1) := by decide +kernel
theorem d_X_tell_24 : decode y_X_tell.2.1 24 = .ok (.getfield 209, 3) := by decide +kernel
theorem d_X_tell_27 : decode y_X_tell.2.1 27 = .ok (.iconst 1, 1) := by decide +kernel
theorem d_X_tell_28 : decode y_X_tell.2.1 28 = .ok (.iadd, 1) := by decide +kernel
theorem d_X_tell_29 : decode y_X_tell.2.1 29 = .ok (.putfield 209, 3) := by decide +kernel
theorem d_X_tell_32 : decode y_X_tell.2.1 32 = .ok (.return_, 1) := by decide +kernel
theorem d_X_isTable_0 : decode y_X_isTable.2.1 0 = .ok (.iload_n 0, 1) := by decide +kernel
theorem d_X_isTable_1 : decode y_X_isTable.2.1 1 = .ok (.ifCond .lt 12, 3) := by decide +kernel
theorem d_X_isTable_4 : decode y_X_isTable.2.1 4 = .ok (.iload_n 0, 1) := by decide +kernel
theorem d_X_isTable_5 : decode y_X_isTable.2.1 5 = .ok (.iconst 3, 1) := by decide +kernel
theorem d_X_isTable_6 : decode y_X_isTable.2.1 6 = .ok (.if_icmp .ge 7, 3) := by decide +kernel
theorem d_X_isTable_9 : decode y_X_isTable.2.1 9 = .ok (.iconst 1, 1) := by decide +kernel
theorem d_X_isTable_10 : decode y_X_isTable.2.1 10 = .ok (.goto 4, 3) := by decide +kernel
theorem d_X_isTable_13 : decode y_X_isTable.2.1 13 = .ok (.iconst 0, 1) := by decide +kernel
theorem d_X_isTable_14 : decode y_X_isTable.2.1 14 = .ok (.ireturn, 1) := by decide +kernel
theorem d_X_isReader_0 : decode y_X_isReader.2.1 0 = .ok (.iload_n 1, 1) := by decide +kernel
theorem d_X_isReader_1 : decode y_X_isReader.2.1 1 = .ok (.ifCond .lt 15, 3) := by decide +kernel
theorem d_X_isReader_4 : decode y_X_isReader.2.1 4 = .ok (.iload_n 1, 1) := by decide +kernel
theorem d_X_isReader_5 : decode y_X_isReader.2.1 5 = .ok (.aload_n 0, 1) := by decide +kernel
theorem d_X_isReader_6 : decode y_X_isReader.2.1 6 = .ok (.getfield 229, 3) := by decide +kernel
theorem d_X_isReader_9 : decode y_X_isReader.2.1 9 = .ok (.if_icmp .ge 7, 3) := by decide +kernel
theorem d_X_isReader_12 : decode y_X_isReader.2.1 12 = .ok (.iconst 1, 1) := by decide +kernel
theorem d_X_isReader_13 : decode y_X_isReader.2.1 13 = .ok (.goto 4, 3) := by decide +kernel
theorem d_X_isReader_16 : decode y_X_isReader.2.1 16 = .ok (.iconst 0, 1) := by decide +kernel
theorem d_X_isReader_17 : decode y_X_isReader.2.1 17 = .ok (.ireturn, 1) := by decide +kernel
theorem d_X_lowest_0 : decode y_X_lowest.2.1 0 = .ok (.iconst 0, 1) := by decide +kernel
theorem d_X_lowest_1 : decode y_X_lowest.2.1 1 = .ok (.istore_n 1, 1) := by decide +kernel
theorem d_X_lowest_2 : decode y_X_lowest.2.1 2 = .ok (.iload_n 1, 1) := by decide +kernel
theorem d_X_lowest_3 : decode y_X_lowest.2.1 3 = .ok (.bipush 12, 2) := by decide +kernel
theorem d_X_lowest_5 : decode y_X_lowest.2.1 5 = .ok (.if_icmp .ge 19, 3) := by decide +kernel
theorem d_X_lowest_8 : decode y_X_lowest.2.1 8 = .ok (.iload_n 0, 1) := by decide +kernel
theorem d_X_lowest_9 : decode y_X_lowest.2.1 9 = .ok (.iload_n 1, 1) := by decide +kernel
theorem d_X_lowest_10 : decode y_X_lowest.2.1 10 = .ok (.ishr, 1) := by decide +kernel
theorem d_X_lowest_11 : decode y_X_lowest.2.1 11 = .ok (.iconst 1, 1) := by decide +kernel
theorem d_X_lowest_12 : decode y_X_lowest.2.1 12 = .ok (.iand, 1) := by decide +kernel
theorem d_X_lowest_13 : decode y_X_lowest.2.1 13 = .ok (.ifCond .eq 5, 3) := by decide +kernel
theorem d_X_lowest_16 : decode y_X_lowest.2.1 16 = .ok (.iload_n 1, 1) := by decide +kernel
theorem d_X_lowest_17 : decode y_X_lowest.2.1 17 = .ok (.ireturn, 1) := by decide +kernel
theorem d_X_lowest_18 : decode y_X_lowest.2.1 18 = .ok (.iinc 1 1, 3) := by decide +kernel
theorem d_X_lowest_21 : decode y_X_lowest.2.1 21 = .ok (.goto (-19), 3) := by decide +kernel
theorem d_X_lowest_24 : decode y_X_lowest.2.1 24 = .ok (.iconst (-1), 1) := by decide +kernel
theorem d_X_lowest_25 : decode y_X_lowest.2.1 25 = .ok (.ireturn, 1) := by decide +kernel
theorem d_X_on_0 : decode y_X_on.2.1 0 = .ok (.lload_n 0, 1) := by decide +kernel
theorem d_X_on_1 : decode y_X_on.2.1 1 = .ok (.bipush 12, 2) := by decide +kernel
theorem d_X_on_3 : decode y_X_on.2.1 3 = .ok (.iload_n 2, 1) := by decide +kernel
theorem d_X_on_4 : decode y_X_on.2.1 4 = .ok (.imul, 1) := by decide +kernel
theorem d_X_on_5 : decode y_X_on.2.1 5 = .ok (.lshr, 1) := by decide +kernel
theorem d_X_on_6 : decode y_X_on.2.1 6 = .ok (.l2i, 1) := by decide +kernel
theorem d_X_on_7 : decode y_X_on.2.1 7 = .ok (.sipush 4095, 3) := by decide +kernel
theorem d_X_on_10 : decode y_X_on.2.1 10 = .ok (.iand, 1) := by decide +kernel
theorem d_X_on_11 : decode y_X_on.2.1 11 = .ok (.ireturn, 1) := by decide +kernel
theorem d_X_with_0 : decode y_X_with.2.1 0 = .ok (.bipush 12, 2) := by decide +kernel
theorem d_X_with_2 : decode y_X_with.2.1 2 = .ok (.iload_n 2, 1) := by decide +kernel
theorem d_X_with_3 : decode y_X_with.2.1 3 = .ok (.imul, 1) := by decide +kernel
theorem d_X_with_4 : decode y_X_with.2.1 4 = .ok (.istore 4, 2) := by decide +kernel
theorem d_X_with_6 : decode y_X_with.2.1 6 = .ok (.lload_n 0, 1) := by decide +kernel
theorem d_X_with_7 : decode y_X_with.2.1 7 = .ok (.ldc2_w 415, 3) := by decide +kernel
theorem d_X_with_10 : decode y_X_with.2.1 10 = .ok (.iload 4, 2) := by decide +kernel
theorem d_X_with_12 : decode y_X_with.2.1 12 = .ok (.lshl, 1) := by decide +kernel
theorem d_X_with_13 : decode y_X_with.2.1 13 = .ok (.ldc2_w 417, 3) := by decide +kernel
theorem d_X_with_16 : decode y_X_with.2.1 16 = .ok (.lxor, 1) := by decide +kernel
theorem d_X_with_17 : decode y_X_with.2.1 17 = .ok (.land, 1) := by decide +kernel
theorem d_X_with_18 : decode y_X_with.2.1 18 = .ok (.iload_n 3, 1) := by decide +kernel
theorem d_X_with_19 : decode y_X_with.2.1 19 = .ok (.i2l, 1) := by decide +kernel
theorem d_X_with_20 : decode y_X_with.2.1 20 = .ok (.iload 4, 2) := by decide +kernel
theorem d_X_with_22 : decode y_X_with.2.1 22 = .ok (.lshl, 1) := by decide +kernel
theorem d_X_with_23 : decode y_X_with.2.1 23 = .ok (.lor, 1) := by decide +kernel
theorem d_X_with_24 : decode y_X_with.2.1 24 = .ok (.lreturn, 1) := by decide +kernel
theorem d_X_anywhere_0 : decode y_X_anywhere.2.1 0 = .ok (.lload_n 0, 1) := by decide +kernel
theorem d_X_anywhere_1 : decode y_X_anywhere.2.1 1 = .ok (.iconst 0, 1) := by decide +kernel
theorem d_X_anywhere_2 : decode y_X_anywhere.2.1 2 = .ok (.invokestatic 178, 3) := by decide +kernel
theorem d_X_anywhere_5 : decode y_X_anywhere.2.1 5 = .ok (.lload_n 0, 1) := by decide +kernel
theorem d_X_anywhere_6 : decode y_X_anywhere.2.1 6 = .ok (.iconst 1, 1) := by decide +kernel
theorem d_X_anywhere_7 : decode y_X_anywhere.2.1 7 = .ok (.invokestatic 178, 3) := by decide +kernel
theorem d_X_anywhere_10 : decode y_X_anywhere.2.1 10 = .ok (.ior, 1) := by decide +kernel
theorem d_X_anywhere_11 : decode y_X_anywhere.2.1 11 = .ok (.lload_n 0, 1) := by decide +kernel
theorem d_X_anywhere_12 : decode y_X_anywhere.2.1 12 = .ok (.iconst 2, 1) := by decide +kernel
theorem d_X_anywhere_13 : decode y_X_anywhere.2.1 13 = .ok (.invokestatic 178, 3) := by decide +kernel
theorem d_X_anywhere_16 : decode y_X_anywhere.2.1 16 = .ok (.ior, 1) := by decide +kernel
theorem d_X_anywhere_17 : decode y_X_anywhere.2.1 17 = .ok (.ireturn, 1) := by decide +kernel
theorem d_X_tableOf_0 : decode y_X_tableOf.2.1 0 = .ok (.iconst 0, 1) := by decide +kernel
theorem d_X_tableOf_1 : decode y_X_tableOf.2.1 1 = .ok (.istore_n 3, 1) := by decide +kernel
theorem d_X_tableOf_2 : decode y_X_tableOf.2.1 2 = .ok (.iload_n 3, 1) := by decide +kernel
theorem d_X_tableOf_3 : decode y_X_tableOf.2.1 3 = .ok (.iconst 3, 1) := by decide +kernel
theorem d_X_tableOf_4 : decode y_X_tableOf.2.1 4 = .ok (.if_icmp .ge 23, 3) := by decide +kernel
theorem d_X_tableOf_7 : decode y_X_tableOf.2.1 7 = .ok (.lload_n 0, 1) := by decide +kernel
theorem d_X_tableOf_8 : decode y_X_tableOf.2.1 8 = .ok (.iload_n 3, 1) := by decide +kernel
theorem d_X_tableOf_9 : decode y_X_tableOf.2.1 9 = .ok (.invokestatic 178, 3) := by decide +kernel
theorem d_X_tableOf_12 : decode y_X_tableOf.2.1 12 = .ok (.iload_n 2, 1) := by decide +kernel
theorem d_X_tableOf_13 : decode y_X_tableOf.2.1 13 = .ok (.ishr, 1) := by decide +kernel
theorem d_X_tableOf_14 : decode y_X_tableOf.2.1 14 = .ok (.iconst 1, 1) := by decide +kernel
theorem d_X_tableOf_15 : decode y_X_tableOf.2.1 15 = .ok (.iand, 1) := by decide +kernel
theorem d_X_tableOf_16 : decode y_X_tableOf.2.1 16 = .ok (.ifCond .eq 5, 3) := by decide +kernel
theorem d_X_tableOf_19 : decode y_X_tableOf.2.1 19 = .ok (.iload_n 3, 1) := by decide +kernel
theorem d_X_tableOf_20 : decode y_X_tableOf.2.1 20 = .ok (.ireturn, 1) := by decide +kernel
theorem d_X_tableOf_21 : decode y_X_tableOf.2.1 21 = .ok (.iinc 3 1, 3) := by decide +kernel
theorem d_X_tableOf_24 : decode y_X_tableOf.2.1 24 = .ok (.goto (-22), 3) := by decide +kernel
theorem d_X_tableOf_27 : decode y_X_tableOf.2.1 27 = .ok (.iconst (-1), 1) := by decide +kernel
theorem d_X_tableOf_28 : decode y_X_tableOf.2.1 28 = .ok (.ireturn, 1) := by decide +kernel
