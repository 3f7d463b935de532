-- DECODE ROWS of the methods, as the claim's program prints them
theorem d_B_init_0 : decode y_B_init.2.1 0 = .ok (.aload_n 0, 1) := by decide +kernel
theorem d_B_init_1 : decode y_B_init.2.1 1 = .ok (.invokespecial 3, 3) := by decide +kernel
theorem d_B_init_4 : decode y_B_init.2.1 4 = .ok (.aload_n 0, 1) := by decide +kernel
theorem d_B_init_5 : decode y_B_init.2.1 5 = .ok (.new 9, 3) := by decide +kernel
theorem d_B_init_8 : decode y_B_init.2.1 8 = .ok (.dup, 1) := by decide +kernel
theorem d_B_init_9 : decode y_B_init.2.1 9 = .ok (.invokespecial 11, 3) := by decide +kernel
theorem d_B_init_12 : decode y_B_init.2.1 12 = .ok (.putfield 12, 3) := by decide +kernel
theorem d_B_init_15 : decode y_B_init.2.1 15 = .ok (.aload_n 0, 1) := by decide +kernel
theorem d_B_init_16 : decode y_B_init.2.1 16 = .ok (.new 9, 3) := by decide +kernel
theorem d_B_init_19 : decode y_B_init.2.1 19 = .ok (.dup, 1) := by decide +kernel
theorem d_B_init_20 : decode y_B_init.2.1 20 = .ok (.invokespecial 11, 3) := by decide +kernel
theorem d_B_init_23 : decode y_B_init.2.1 23 = .ok (.putfield 18, 3) := by decide +kernel
theorem d_B_init_26 : decode y_B_init.2.1 26 = .ok (.aload_n 0, 1) := by decide +kernel
theorem d_B_init_27 : decode y_B_init.2.1 27 = .ok (.bipush 99, 2) := by decide +kernel
theorem d_B_init_29 : decode y_B_init.2.1 29 = .ok (.putfield 21, 3) := by decide +kernel
theorem d_B_init_32 : decode y_B_init.2.1 32 = .ok (.return_, 1) := by decide +kernel
theorem d_B_tell_0 : decode y_B_tell.2.1 0 = .ok (.aload_n 0, 1) := by decide +kernel
theorem d_B_tell_1 : decode y_B_tell.2.1 1 = .ok (.getfield 12, 3) := by decide +kernel
theorem d_B_tell_4 : decode y_B_tell.2.1 4 = .ok (.aload_n 1, 1) := by decide +kernel
theorem d_B_tell_5 : decode y_B_tell.2.1 5 = .ok (.getfield 25, 3) := by decide +kernel
theorem d_B_tell_8 : decode y_B_tell.2.1 8 = .ok (.invokevirtual 28, 3) := by decide +kernel
theorem d_B_tell_11 : decode y_B_tell.2.1 11 = .ok (.aload_n 0, 1) := by decide +kernel
theorem d_B_tell_12 : decode y_B_tell.2.1 12 = .ok (.getfield 18, 3) := by decide +kernel
theorem d_B_tell_15 : decode y_B_tell.2.1 15 = .ok (.aload_n 1, 1) := by decide +kernel
theorem d_B_tell_16 : decode y_B_tell.2.1 16 = .ok (.getfield 32, 3) := by decide +kernel
theorem d_B_tell_19 : decode y_B_tell.2.1 19 = .ok (.invokevirtual 28, 3) := by decide +kernel
theorem d_B_tell_22 : decode y_B_tell.2.1 22 = .ok (.aload_n 0, 1) := by decide +kernel
theorem d_B_tell_23 : decode y_B_tell.2.1 23 = .ok (.aload_n 1, 1) := by decide +kernel
theorem d_B_tell_24 : decode y_B_tell.2.1 24 = .ok (.getfield 33, 3) := by decide +kernel
theorem d_B_tell_27 : decode y_B_tell.2.1 27 = .ok (.putfield 36, 3) := by decide +kernel
theorem d_B_tell_30 : decode y_B_tell.2.1 30 = .ok (.return_, 1) := by decide +kernel
theorem d_B_isLater_0 : decode y_B_isLater.2.1 0 = .ok (.aload_n 0, 1) := by decide +kernel
theorem d_B_isLater_1 : decode y_B_isLater.2.1 1 = .ok (.getfield 36, 3) := by decide +kernel
theorem d_B_isLater_4 : decode y_B_isLater.2.1 4 = .ok (.ifCond .le 18, 3) := by decide +kernel
theorem d_B_isLater_7 : decode y_B_isLater.2.1 7 = .ok (.aload_n 0, 1) := by decide +kernel
theorem d_B_isLater_8 : decode y_B_isLater.2.1 8 = .ok (.getfield 37, 3) := by decide +kernel
theorem d_B_isLater_11 : decode y_B_isLater.2.1 11 = .ok (.aload_n 0, 1) := by decide +kernel
theorem d_B_isLater_12 : decode y_B_isLater.2.1 12 = .ok (.getfield 36, 3) := by decide +kernel
theorem d_B_isLater_15 : decode y_B_isLater.2.1 15 = .ok (.if_icmp .lt 7, 3) := by decide +kernel
theorem d_B_isLater_18 : decode y_B_isLater.2.1 18 = .ok (.iconst 1, 1) := by decide +kernel
theorem d_B_isLater_19 : decode y_B_isLater.2.1 19 = .ok (.goto 4, 3) := by decide +kernel
theorem d_B_isLater_22 : decode y_B_isLater.2.1 22 = .ok (.iconst 0, 1) := by decide +kernel
theorem d_B_isLater_23 : decode y_B_isLater.2.1 23 = .ok (.ireturn, 1) := by decide +kernel
theorem d_B_condition_0 : decode y_B_condition.2.1 0 = .ok (.aload_n 0, 1) := by decide +kernel
theorem d_B_condition_1 : decode y_B_condition.2.1 1 = .ok (.invokevirtual 40, 3) := by decide +kernel
theorem d_B_condition_4 : decode y_B_condition.2.1 4 = .ok (.ifCond .eq 10, 3) := by decide +kernel
theorem d_B_condition_7 : decode y_B_condition.2.1 7 = .ok (.aload_n 0, 1) := by decide +kernel
theorem d_B_condition_8 : decode y_B_condition.2.1 8 = .ok (.getfield 18, 3) := by decide +kernel
theorem d_B_condition_11 : decode y_B_condition.2.1 11 = .ok (.goto 7, 3) := by decide +kernel
theorem d_B_condition_14 : decode y_B_condition.2.1 14 = .ok (.aload_n 0, 1) := by decide +kernel
theorem d_B_condition_15 : decode y_B_condition.2.1 15 = .ok (.getfield 12, 3) := by decide +kernel
theorem d_B_condition_18 : decode y_B_condition.2.1 18 = .ok (.areturn, 1) := by decide +kernel
theorem d_E_init_0 : decode y_E_init.2.1 0 = .ok (.aload_n 0, 1) := by decide +kernel
theorem d_E_init_1 : decode y_E_init.2.1 1 = .ok (.invokespecial 3, 3) := by decide +kernel
theorem d_E_init_4 : decode y_E_init.2.1 4 = .ok (.aload_n 0, 1) := by decide +kernel
theorem d_E_init_5 : decode y_E_init.2.1 5 = .ok (.bipush 60, 2) := by decide +kernel
theorem d_E_init_7 : decode y_E_init.2.1 7 = .ok (.newarray .int, 2) := by decide +kernel
theorem d_E_init_9 : decode y_E_init.2.1 9 = .ok (.putfield 9, 3) := by decide +kernel
theorem d_E_init_12 : decode y_E_init.2.1 12 = .ok (.aload_n 0, 1) := by decide +kernel
theorem d_E_init_13 : decode y_E_init.2.1 13 = .ok (.bipush 60, 2) := by decide +kernel
theorem d_E_init_15 : decode y_E_init.2.1 15 = .ok (.newarray .int, 2) := by decide +kernel
theorem d_E_init_17 : decode y_E_init.2.1 17 = .ok (.putfield 15, 3) := by decide +kernel
theorem d_E_init_20 : decode y_E_init.2.1 20 = .ok (.return_, 1) := by decide +kernel
theorem d_E_clear_0 : decode y_E_clear.2.1 0 = .ok (.aload_n 0, 1) := by decide +kernel
theorem d_E_clear_1 : decode y_E_clear.2.1 1 = .ok (.iconst 0, 1) := by decide +kernel
theorem d_E_clear_2 : decode y_E_clear.2.1 2 = .ok (.putfield 18, 3) := by decide +kernel
theorem d_E_clear_5 : decode y_E_clear.2.1 5 = .ok (.return_, 1) := by decide +kernel
theorem d_E_append_0 : decode y_E_append.2.1 0 = .ok (.aload_n 0, 1) := by decide +kernel
theorem d_E_append_1 : decode y_E_append.2.1 1 = .ok (.getfield 18, 3) := by decide +kernel
theorem d_E_append_4 : decode y_E_append.2.1 4 = .ok (.aload_n 0, 1) := by decide +kernel
theorem d_E_append_5 : decode y_E_append.2.1 5 = .ok (.getfield 9, 3) := by decide +kernel
theorem d_E_append_8 : decode y_E_append.2.1 8 = .ok (.arraylength, 1) := by decide +kernel
theorem d_E_append_9 : decode y_E_append.2.1 9 = .ok (.if_icmp .ge 23, 3) := by decide +kernel
theorem d_E_append_12 : decode y_E_append.2.1 12 = .ok (.aload_n 0, 1) := by decide +kernel
theorem d_E_append_13 : decode y_E_append.2.1 13 = .ok (.getfield 9, 3) := by decide +kernel
theorem d_E_append_16 : decode y_E_append.2.1 16 = .ok (.aload_n 0, 1) := by decide +kernel
theorem d_E_append_17 : decode y_E_append.2.1 17 = .ok (.getfield 18, 3) := by decide +kernel
theorem d_E_append_20 : decode y_E_append.2.1 20 = .ok (.iload_n 1, 1) := by decide +kernel
theorem d_E_append_21 : decode y_E_append.2.1 21 = .ok (.iastore, 1) := by decide +kernel
theorem d_E_append_22 : decode y_E_append.2.1 22 = .ok (.aload_n 0, 1) := by decide +kernel
theorem d_E_append_23 : decode y_E_append.2.1 23 = .ok (.dup, 1) := by decide +kernel
theorem d_E_append_24 : decode y_E_append.2.1 24 = .ok (.getfield 18, 3) := by decide +kernel
theorem d_E_append_27 : decode y_E_append.2.1 27 = .ok (.iconst 1, 1) := by decide +kernel
theorem d_E_append_28 : decode y_E_append.2.1 28 = .ok (.iadd, 1) := by decide +kernel
theorem d_E_append_29 : decode y_E_append.2.1 29 = .ok (.putfield 18, 3) := by decide +kernel
theorem d_E_append_32 : decode y_E_append.2.1 32 = .ok (.return_, 1) := by decide +kernel
theorem d_E_copy_0 : decode y_E_copy.2.1 0 = .ok (.aload_n 1, 1) := by decide +kernel
theorem d_E_copy_1 : decode y_E_copy.2.1 1 = .ok (.getfield 9, 3) := by decide +kernel
theorem d_E_copy_4 : decode y_E_copy.2.1 4 = .ok (.iconst 0, 1) := by decide +kernel
theorem d_E_copy_5 : decode y_E_copy.2.1 5 = .ok (.aload_n 0, 1) := by decide +kernel
theorem d_E_copy_6 : decode y_E_copy.2.1 6 = .ok (.getfield 9, 3) := by decide +kernel
theorem d_E_copy_9 : decode y_E_copy.2.1 9 = .ok (.iconst 0, 1) := by decide +kernel
theorem d_E_copy_10 : decode y_E_copy.2.1 10 = .ok (.aload_n 0, 1) := by decide +kernel
theorem d_E_copy_11 : decode y_E_copy.2.1 11 = .ok (.getfield 9, 3) := by decide +kernel
theorem d_E_copy_14 : decode y_E_copy.2.1 14 = .ok (.arraylength, 1) := by decide +kernel
theorem d_E_copy_15 : decode y_E_copy.2.1 15 = .ok (.invokestatic 22, 3) := by decide +kernel
theorem d_E_copy_18 : decode y_E_copy.2.1 18 = .ok (.aload_n 0, 1) := by decide +kernel
theorem d_E_copy_19 : decode y_E_copy.2.1 19 = .ok (.aload_n 1, 1) := by decide +kernel
theorem d_E_copy_20 : decode y_E_copy.2.1 20 = .ok (.getfield 18, 3) := by decide +kernel
theorem d_E_copy_23 : decode y_E_copy.2.1 23 = .ok (.putfield 18, 3) := by decide +kernel
theorem d_E_copy_26 : decode y_E_copy.2.1 26 = .ok (.return_, 1) := by decide +kernel
theorem d_E_worth_0 : decode y_E_worth.2.1 0 = .ok (.iconst 0, 1) := by decide +kernel
theorem d_E_worth_1 : decode y_E_worth.2.1 1 = .ok (.istore 4, 2) := by decide +kernel
theorem d_E_worth_3 : decode y_E_worth.2.1 3 = .ok (.iconst 0, 1) := by decide +kernel
theorem d_E_worth_4 : decode y_E_worth.2.1 4 = .ok (.istore 5, 2) := by decide +kernel
theorem d_E_worth_6 : decode y_E_worth.2.1 6 = .ok (.iload 5, 2) := by decide +kernel
theorem d_E_worth_8 : decode y_E_worth.2.1 8 = .ok (.aload_n 0, 1) := by decide +kernel
theorem d_E_worth_9 : decode y_E_worth.2.1 9 = .ok (.getfield 18, 3) := by decide +kernel
theorem d_E_worth_12 : decode y_E_worth.2.1 12 = .ok (.if_icmp .ge 187, 3) := by decide +kernel
theorem d_E_worth_15 : decode y_E_worth.2.1 15 = .ok (.aload_n 0, 1) := by decide +kernel
theorem d_E_worth_16 : decode y_E_worth.2.1 16 = .ok (.getfield 9, 3) := by decide +kernel
theorem d_E_worth_19 : decode y_E_worth.2.1 19 = .ok (.iload 5, 2) := by decide +kernel
theorem d_E_worth_21 : decode y_E_worth.2.1 21 = .ok (.iaload, 1) := by decide +kernel
theorem d_E_worth_22 : decode y_E_worth.2.1 22 = .ok (.istore 6, 2) := by decide +kernel
theorem d_E_worth_24 : decode y_E_worth.2.1 24 = .ok (.iload 6, 2) := by decide +kernel
theorem d_E_worth_26 : decode y_E_worth.2.1 26 = .ok (.sipush 130, 3) := by decide +kernel
theorem d_E_worth_29 : decode y_E_worth.2.1 29 = .ok (.if_icmp .ge 83, 3) := by decide +kernel
theorem d_E_worth_32 : decode y_E_worth.2.1 32 = .ok (.iload 4, 2) := by decide +kernel
theorem d_E_worth_34 : decode y_E_worth.2.1 34 = .ok (.aload_n 0, 1) := by decide +kernel
theorem d_E_worth_35 : decode y_E_worth.2.1 35 = .ok (.getfield 15, 3) := by decide +kernel
theorem d_E_worth_38 : decode y_E_worth.2.1 38 = .ok (.arraylength, 1) := by decide +kernel
theorem d_E_worth_39 : decode y_E_worth.2.1 39 = .ok (.if_icmp .ge 73, 3) := by decide +kernel
theorem d_E_worth_42 : decode y_E_worth.2.1 42 = .ok (.aload_n 0, 1) := by decide +kernel
theorem d_E_worth_43 : decode y_E_worth.2.1 43 = .ok (.getfield 15, 3) := by decide +kernel
theorem d_E_worth_46 : decode y_E_worth.2.1 46 = .ok (.iload 4, 2) := by decide +kernel
theorem d_E_worth_48 : decode y_E_worth.2.1 48 = .ok (.iload 6, 2) := by decide +kernel
theorem d_E_worth_50 : decode y_E_worth.2.1 50 = .ok (.bipush 100, 2) := by decide +kernel
theorem d_E_worth_52 : decode y_E_worth.2.1 52 = .ok (.if_icmp .ge 8, 3) := by decide +kernel
theorem d_E_worth_55 : decode y_E_worth.2.1 55 = .ok (.iload 6, 2) := by decide +kernel
theorem d_E_worth_57 : decode y_E_worth.2.1 57 = .ok (.goto 48, 3) := by decide +kernel
theorem d_E_worth_60 : decode y_E_worth.2.1 60 = .ok (.iload 6, 2) := by decide +kernel
theorem d_E_worth_62 : decode y_E_worth.2.1 62 = .ok (.bipush 120, 2) := by decide +kernel
theorem d_E_worth_64 : decode y_E_worth.2.1 64 = .ok (.if_icmp .ge 15, 3) := by decide +kernel
theorem d_E_worth_67 : decode y_E_worth.2.1 67 = .ok (.iload_n 1, 1) := by decide +kernel
theorem d_E_worth_68 : decode y_E_worth.2.1 68 = .ok (.iload 6, 2) := by decide +kernel
theorem d_E_worth_70 : decode y_E_worth.2.1 70 = .ok (.bipush 100, 2) := by decide +kernel
theorem d_E_worth_72 : decode y_E_worth.2.1 72 = .ok (.isub, 1) := by decide +kernel
theorem d_E_worth_73 : decode y_E_worth.2.1 73 = .ok (.ishr, 1) := by decide +kernel
theorem d_E_worth_74 : decode y_E_worth.2.1 74 = .ok (.iconst 1, 1) := by decide +kernel
theorem d_E_worth_75 : decode y_E_worth.2.1 75 = .ok (.iand, 1) := by decide +kernel
theorem d_E_worth_76 : decode y_E_worth.2.1 76 = .ok (.goto 29, 3) := by decide +kernel
theorem d_E_worth_79 : decode y_E_worth.2.1 79 = .ok (.iload 6, 2) := by decide +kernel
theorem d_E_worth_81 : decode y_E_worth.2.1 81 = .ok (.bipush 120, 2) := by decide +kernel
theorem d_E_worth_83 : decode y_E_worth.2.1 83 = .ok (.if_icmp .ne 10, 3) := by decide +kernel
theorem d_E_worth_86 : decode y_E_worth.2.1 86 = .ok (.iload_n 1, 1) := by decide +kernel
theorem d_E_worth_87 : decode y_E_worth.2.1 87 = .ok (.invokestatic 28, 3) := by decide +kernel
theorem d_E_worth_90 : decode y_E_worth.2.1 90 = .ok (.goto 15, 3) := by decide +kernel
theorem d_E_worth_93 : decode y_E_worth.2.1 93 = .ok (.iload 6, 2) := by decide +kernel
theorem d_E_worth_95 : decode y_E_worth.2.1 95 = .ok (.bipush 121, 2) := by decide +kernel
theorem d_E_worth_97 : decode y_E_worth.2.1 97 = .ok (.if_icmp .ne 7, 3) := by decide +kernel
theorem d_E_worth_100 : decode y_E_worth.2.1 100 = .ok (.iload_n 2, 1) := by decide +kernel
theorem d_E_worth_101 : decode y_E_worth.2.1 101 = .ok (.goto 4, 3) := by decide +kernel
theorem d_E_worth_104 : decode y_E_worth.2.1 104 = .ok (.iload_n 3, 1) := by decide +kernel
theorem d_E_worth_105 : decode y_E_worth.2.1 105 = .ok (.iastore, 1) := by decide +kernel
theorem d_E_worth_106 : decode y_E_worth.2.1 106 = .ok (.iinc 4 1, 3) := by decide +kernel
theorem d_E_worth_109 : decode y_E_worth.2.1 109 = .ok (.goto 84, 3) := by decide +kernel
theorem d_E_worth_112 : decode y_E_worth.2.1 112 = .ok (.iload 6, 2) := by decide +kernel
theorem d_E_worth_114 : decode y_E_worth.2.1 114 = .ok (.sipush 130, 3) := by decide +kernel
theorem d_E_worth_117 : decode y_E_worth.2.1 117 = .ok (.if_icmp .ne 37, 3) := by decide +kernel
theorem d_E_worth_120 : decode y_E_worth.2.1 120 = .ok (.iload 4, 2) := by decide +kernel
theorem d_E_worth_122 : decode y_E_worth.2.1 122 = .ok (.ifCond .le 32, 3) := by decide +kernel
theorem d_E_worth_125 : decode y_E_worth.2.1 125 = .ok (.aload_n 0, 1) := by decide +kernel
theorem d_E_worth_126 : decode y_E_worth.2.1 126 = .ok (.getfield 15, 3) := by decide +kernel
theorem d_E_worth_129 : decode y_E_worth.2.1 129 = .ok (.iload 4, 2) := by decide +kernel
theorem d_E_worth_131 : decode y_E_worth.2.1 131 = .ok (.iconst 1, 1) := by decide +kernel
theorem d_E_worth_132 : decode y_E_worth.2.1 132 = .ok (.isub, 1) := by decide +kernel
theorem d_E_worth_133 : decode y_E_worth.2.1 133 = .ok (.aload_n 0, 1) := by decide +kernel
theorem d_E_worth_134 : decode y_E_worth.2.1 134 = .ok (.getfield 15, 3) := by decide +kernel
theorem d_E_worth_137 : decode y_E_worth.2.1 137 = .ok (.iload 4, 2) := by decide +kernel
theorem d_E_worth_139 : decode y_E_worth.2.1 139 = .ok (.iconst 1, 1) := by decide +kernel
theorem d_E_worth_140 : decode y_E_worth.2.1 140 = .ok (.isub, 1) := by decide +kernel
theorem d_E_worth_141 : decode y_E_worth.2.1 141 = .ok (.iaload, 1) := by decide +kernel
theorem d_E_worth_142 : decode y_E_worth.2.1 142 = .ok (.ifCond .ne 7, 3) := by decide +kernel
theorem d_E_worth_145 : decode y_E_worth.2.1 145 = .ok (.iconst 1, 1) := by decide +kernel
theorem d_E_worth_146 : decode y_E_worth.2.1 146 = .ok (.goto 4, 3) := by decide +kernel
theorem d_E_worth_149 : decode y_E_worth.2.1 149 = .ok (.iconst 0, 1) := by decide +kernel
theorem d_E_worth_150 : decode y_E_worth.2.1 150 = .ok (.iastore, 1) := by decide +kernel
theorem d_E_worth_151 : decode y_E_worth.2.1 151 = .ok (.goto 42, 3) := by decide +kernel
theorem d_E_worth_154 : decode y_E_worth.2.1 154 = .ok (.iload 4, 2) := by decide +kernel
theorem d_E_worth_156 : decode y_E_worth.2.1 156 = .ok (.iconst 1, 1) := by decide +kernel
theorem d_E_worth_157 : decode y_E_worth.2.1 157 = .ok (.if_icmp .le 36, 3) := by decide +kernel
theorem d_E_worth_160 : decode y_E_worth.2.1 160 = .ok (.iinc 4 (-1), 3) := by decide +kernel
theorem d_E_worth_163 : decode y_E_worth.2.1 163 = .ok (.aload_n 0, 1) := by decide +kernel
theorem d_E_worth_164 : decode y_E_worth.2.1 164 = .ok (.getfield 15, 3) := by decide +kernel
theorem d_E_worth_167 : decode y_E_worth.2.1 167 = .ok (.iload 4, 2) := by decide +kernel
theorem d_E_worth_169 : decode y_E_worth.2.1 169 = .ok (.iconst 1, 1) := by decide +kernel
theorem d_E_worth_170 : decode y_E_worth.2.1 170 = .ok (.isub, 1) := by decide +kernel
theorem d_E_worth_171 : decode y_E_worth.2.1 171 = .ok (.iload 6, 2) := by decide +kernel
theorem d_E_worth_173 : decode y_E_worth.2.1 173 = .ok (.aload_n 0, 1) := by decide +kernel
theorem d_E_worth_174 : decode y_E_worth.2.1 174 = .ok (.getfield 15, 3) := by decide +kernel
theorem d_E_worth_177 : decode y_E_worth.2.1 177 = .ok (.iload 4, 2) := by decide +kernel
theorem d_E_worth_179 : decode y_E_worth.2.1 179 = .ok (.iconst 1, 1) := by decide +kernel
theorem d_E_worth_180 : decode y_E_worth.2.1 180 = .ok (.isub, 1) := by decide +kernel
theorem d_E_worth_181 : decode y_E_worth.2.1 181 = .ok (.iaload, 1) := by decide +kernel
theorem d_E_worth_182 : decode y_E_worth.2.1 182 = .ok (.aload_n 0, 1) := by decide +kernel
theorem d_E_worth_183 : decode y_E_worth.2.1 183 = .ok (.getfield 15, 3) := by decide +kernel
theorem d_E_worth_186 : decode y_E_worth.2.1 186 = .ok (.iload 4, 2) := by decide +kernel
theorem d_E_worth_188 : decode y_E_worth.2.1 188 = .ok (.iaload, 1) := by decide +kernel
theorem d_E_worth_189 : decode y_E_worth.2.1 189 = .ok (.invokestatic 34, 3) := by decide +kernel
theorem d_E_worth_192 : decode y_E_worth.2.1 192 = .ok (.iastore, 1) := by decide +kernel
theorem d_E_worth_193 : decode y_E_worth.2.1 193 = .ok (.iinc 5 1, 3) := by decide +kernel
theorem d_E_worth_196 : decode y_E_worth.2.1 196 = .ok (.goto (-190), 3) := by decide +kernel
theorem d_E_worth_199 : decode y_E_worth.2.1 199 = .ok (.iload 4, 2) := by decide +kernel
theorem d_E_worth_201 : decode y_E_worth.2.1 201 = .ok (.ifCond .le 12, 3) := by decide +kernel
theorem d_E_worth_204 : decode y_E_worth.2.1 204 = .ok (.aload_n 0, 1) := by decide +kernel
theorem d_E_worth_205 : decode y_E_worth.2.1 205 = .ok (.getfield 15, 3) := by decide +kernel
theorem d_E_worth_208 : decode y_E_worth.2.1 208 = .ok (.iconst 0, 1) := by decide +kernel
theorem d_E_worth_209 : decode y_E_worth.2.1 209 = .ok (.iaload, 1) := by decide +kernel
theorem d_E_worth_210 : decode y_E_worth.2.1 210 = .ok (.goto 4, 3) := by decide +kernel
theorem d_E_worth_213 : decode y_E_worth.2.1 213 = .ok (.iconst 0, 1) := by decide +kernel
theorem d_E_worth_214 : decode y_E_worth.2.1 214 = .ok (.ireturn, 1) := by decide +kernel
theorem d_E_joined_0 : decode y_E_joined.2.1 0 = .ok (.iload_n 0, 1) := by decide +kernel
theorem d_E_joined_1 : decode y_E_joined.2.1 1 = .ok (.tableswitch 104 131 136 #[39, 53, 67, 78, 89, 100], 39) := by decide +kernel
theorem d_E_joined_40 : decode y_E_joined.2.1 40 = .ok (.iload_n 1, 1) := by decide +kernel
theorem d_E_joined_41 : decode y_E_joined.2.1 41 = .ok (.ifCond .ne 7, 3) := by decide +kernel
theorem d_E_joined_44 : decode y_E_joined.2.1 44 = .ok (.iload_n 2, 1) := by decide +kernel
theorem d_E_joined_45 : decode y_E_joined.2.1 45 = .ok (.ifCond .eq 7, 3) := by decide +kernel
theorem d_E_joined_48 : decode y_E_joined.2.1 48 = .ok (.iconst 1, 1) := by decide +kernel
theorem d_E_joined_49 : decode y_E_joined.2.1 49 = .ok (.goto 4, 3) := by decide +kernel
theorem d_E_joined_52 : decode y_E_joined.2.1 52 = .ok (.iconst 0, 1) := by decide +kernel
theorem d_E_joined_53 : decode y_E_joined.2.1 53 = .ok (.ireturn, 1) := by decide +kernel
theorem d_E_joined_54 : decode y_E_joined.2.1 54 = .ok (.iload_n 1, 1) := by decide +kernel
theorem d_E_joined_55 : decode y_E_joined.2.1 55 = .ok (.ifCond .eq 11, 3) := by decide +kernel
theorem d_E_joined_58 : decode y_E_joined.2.1 58 = .ok (.iload_n 2, 1) := by decide +kernel
theorem d_E_joined_59 : decode y_E_joined.2.1 59 = .ok (.ifCond .eq 7, 3) := by decide +kernel
theorem d_E_joined_62 : decode y_E_joined.2.1 62 = .ok (.iconst 1, 1) := by decide +kernel
theorem d_E_joined_63 : decode y_E_joined.2.1 63 = .ok (.goto 4, 3) := by decide +kernel
theorem d_E_joined_66 : decode y_E_joined.2.1 66 = .ok (.iconst 0, 1) := by decide +kernel
theorem d_E_joined_67 : decode y_E_joined.2.1 67 = .ok (.ireturn, 1) := by decide +kernel
theorem d_E_joined_68 : decode y_E_joined.2.1 68 = .ok (.iload_n 1, 1) := by decide +kernel
theorem d_E_joined_69 : decode y_E_joined.2.1 69 = .ok (.iload_n 2, 1) := by decide +kernel
theorem d_E_joined_70 : decode y_E_joined.2.1 70 = .ok (.if_icmp .ge 7, 3) := by decide +kernel
theorem d_E_joined_73 : decode y_E_joined.2.1 73 = .ok (.iconst 1, 1) := by decide +kernel
theorem d_E_joined_74 : decode y_E_joined.2.1 74 = .ok (.goto 4, 3) := by decide +kernel
theorem d_E_joined_77 : decode y_E_joined.2.1 77 = .ok (.iconst 0, 1) := by decide +kernel
theorem d_E_joined_78 : decode y_E_joined.2.1 78 = .ok (.ireturn, 1) := by decide +kernel
theorem d_E_joined_79 : decode y_E_joined.2.1 79 = .ok (.iload_n 1, 1) := by decide +kernel
theorem d_E_joined_80 : decode y_E_joined.2.1 80 = .ok (.iload_n 2, 1) := by decide +kernel
theorem d_E_joined_81 : decode y_E_joined.2.1 81 = .ok (.if_icmp .le 7, 3) := by decide +kernel
theorem d_E_joined_84 : decode y_E_joined.2.1 84 = .ok (.iconst 1, 1) := by decide +kernel
theorem d_E_joined_85 : decode y_E_joined.2.1 85 = .ok (.goto 4, 3) := by decide +kernel
theorem d_E_joined_88 : decode y_E_joined.2.1 88 = .ok (.iconst 0, 1) := by decide +kernel
theorem d_E_joined_89 : decode y_E_joined.2.1 89 = .ok (.ireturn, 1) := by decide +kernel
theorem d_E_joined_90 : decode y_E_joined.2.1 90 = .ok (.iload_n 1, 1) := by decide +kernel
theorem d_E_joined_91 : decode y_E_joined.2.1 91 = .ok (.iload_n 2, 1) := by decide +kernel
theorem d_E_joined_92 : decode y_E_joined.2.1 92 = .ok (.if_icmp .ne 7, 3) := by decide +kernel
theorem d_E_joined_95 : decode y_E_joined.2.1 95 = .ok (.iconst 1, 1) := by decide +kernel
theorem d_E_joined_96 : decode y_E_joined.2.1 96 = .ok (.goto 4, 3) := by decide +kernel
theorem d_E_joined_99 : decode y_E_joined.2.1 99 = .ok (.iconst 0, 1) := by decide +kernel
theorem d_E_joined_100 : decode y_E_joined.2.1 100 = .ok (.ireturn, 1) := by decide +kernel
theorem d_E_joined_101 : decode y_E_joined.2.1 101 = .ok (.iload_n 1, 1) := by decide +kernel
theorem d_E_joined_102 : decode y_E_joined.2.1 102 = .ok (.iload_n 2, 1) := by decide +kernel
theorem d_E_joined_103 : decode y_E_joined.2.1 103 = .ok (.iadd, 1) := by decide +kernel
theorem d_E_joined_104 : decode y_E_joined.2.1 104 = .ok (.ireturn, 1) := by decide +kernel
theorem d_E_joined_105 : decode y_E_joined.2.1 105 = .ok (.iload_n 1, 1) := by decide +kernel
theorem d_E_joined_106 : decode y_E_joined.2.1 106 = .ok (.iload_n 2, 1) := by decide +kernel
theorem d_E_joined_107 : decode y_E_joined.2.1 107 = .ok (.isub, 1) := by decide +kernel
theorem d_E_joined_108 : decode y_E_joined.2.1 108 = .ok (.ireturn, 1) := by decide +kernel
theorem d_K_init_0 : decode y_K_init.2.1 0 = .ok (.aload_n 0, 1) := by decide +kernel
theorem d_K_init_1 : decode y_K_init.2.1 1 = .ok (.invokespecial 3, 3) := by decide +kernel
theorem d_K_init_4 : decode y_K_init.2.1 4 = .ok (.aload_n 0, 1) := by decide +kernel
theorem d_K_init_5 : decode y_K_init.2.1 5 = .ok (.bipush 60, 2) := by decide +kernel
theorem d_K_init_7 : decode y_K_init.2.1 7 = .ok (.newarray .int, 2) := by decide +kernel
theorem d_K_init_9 : decode y_K_init.2.1 9 = .ok (.putfield 9, 3) := by decide +kernel
theorem d_K_init_12 : decode y_K_init.2.1 12 = .ok (.aload_n 0, 1) := by decide +kernel
theorem d_K_init_13 : decode y_K_init.2.1 13 = .ok (.bipush 12, 2) := by decide +kernel
theorem d_K_init_15 : decode y_K_init.2.1 15 = .ok (.newarray .int, 2) := by decide +kernel
theorem d_K_init_17 : decode y_K_init.2.1 17 = .ok (.putfield 15, 3) := by decide +kernel
theorem d_K_init_20 : decode y_K_init.2.1 20 = .ok (.aload_n 0, 1) := by decide +kernel
theorem d_K_init_21 : decode y_K_init.2.1 21 = .ok (.bipush 6, 2) := by decide +kernel
theorem d_K_init_23 : decode y_K_init.2.1 23 = .ok (.newarray .int, 2) := by decide +kernel
theorem d_K_init_25 : decode y_K_init.2.1 25 = .ok (.putfield 18, 3) := by decide +kernel
theorem d_K_init_28 : decode y_K_init.2.1 28 = .ok (.aload_n 0, 1) := by decide +kernel
theorem d_K_init_29 : decode y_K_init.2.1 29 = .ok (.bipush 6, 2) := by decide +kernel
theorem d_K_init_31 : decode y_K_init.2.1 31 = .ok (.newarray .int, 2) := by decide +kernel
theorem d_K_init_33 : decode y_K_init.2.1 33 = .ok (.putfield 21, 3) := by decide +kernel
theorem d_K_init_36 : decode y_K_init.2.1 36 = .ok (.return_, 1) := by decide +kernel
theorem d_R_init_0 : decode y_R_init.2.1 0 = .ok (.aload_n 0, 1) := by decide +kernel
theorem d_R_init_1 : decode y_R_init.2.1 1 = .ok (.invokespecial 1, 3) := by decide +kernel
theorem d_R_init_4 : decode y_R_init.2.1 4 = .ok (.return_, 1) := by decide +kernel
theorem d_R_begin_0 : decode y_R_begin.2.1 0 = .ok (.aload_n 0, 1) := by decide +kernel
theorem d_R_begin_1 : decode y_R_begin.2.1 1 = .ok (.iload_n 1, 1) := by decide +kernel
theorem d_R_begin_2 : decode y_R_begin.2.1 2 = .ok (.putfield 7, 3) := by decide +kernel
theorem d_R_begin_5 : decode y_R_begin.2.1 5 = .ok (.aload_n 0, 1) := by decide +kernel
theorem d_R_begin_6 : decode y_R_begin.2.1 6 = .ok (.iload_n 1, 1) := by decide +kernel
theorem d_R_begin_7 : decode y_R_begin.2.1 7 = .ok (.putfield 13, 3) := by decide +kernel
theorem d_R_begin_10 : decode y_R_begin.2.1 10 = .ok (.aload_n 0, 1) := by decide +kernel
theorem d_R_begin_11 : decode y_R_begin.2.1 11 = .ok (.iload_n 2, 1) := by decide +kernel
theorem d_R_begin_12 : decode y_R_begin.2.1 12 = .ok (.putfield 16, 3) := by decide +kernel
theorem d_R_begin_15 : decode y_R_begin.2.1 15 = .ok (.return_, 1) := by decide +kernel
theorem d_R_left_0 : decode y_R_left.2.1 0 = .ok (.aload_n 0, 1) := by decide +kernel
theorem d_R_left_1 : decode y_R_left.2.1 1 = .ok (.getfield 16, 3) := by decide +kernel
theorem d_R_left_4 : decode y_R_left.2.1 4 = .ok (.aload_n 0, 1) := by decide +kernel
theorem d_R_left_5 : decode y_R_left.2.1 5 = .ok (.getfield 19, 3) := by decide +kernel
theorem d_R_left_8 : decode y_R_left.2.1 8 = .ok (.iconst (-1), 1) := by decide +kernel
theorem d_R_left_9 : decode y_R_left.2.1 9 = .ok (.ixor, 1) := by decide +kernel
theorem d_R_left_10 : decode y_R_left.2.1 10 = .ok (.iand, 1) := by decide +kernel
theorem d_R_left_11 : decode y_R_left.2.1 11 = .ok (.ireturn, 1) := by decide +kernel
theorem d_S_init_0 : decode y_S_init.2.1 0 = .ok (.aload_n 0, 1) := by decide +kernel
theorem d_S_init_1 : decode y_S_init.2.1 1 = .ok (.invokespecial 3, 3) := by decide +kernel
theorem d_S_init_4 : decode y_S_init.2.1 4 = .ok (.aload_n 0, 1) := by decide +kernel
theorem d_S_init_5 : decode y_S_init.2.1 5 = .ok (.sipush 5000, 3) := by decide +kernel
theorem d_S_init_8 : decode y_S_init.2.1 8 = .ok (.newarray .long, 2) := by decide +kernel
theorem d_S_init_10 : decode y_S_init.2.1 10 = .ok (.putfield 9, 3) := by decide +kernel
theorem d_S_init_13 : decode y_S_init.2.1 13 = .ok (.aload_n 0, 1) := by decide +kernel
theorem d_S_init_14 : decode y_S_init.2.1 14 = .ok (.sipush 5000, 3) := by decide +kernel
theorem d_S_init_17 : decode y_S_init.2.1 17 = .ok (.newarray .int, 2) := by decide +kernel
theorem d_S_init_19 : decode y_S_init.2.1 19 = .ok (.putfield 15, 3) := by decide +kernel
theorem d_S_init_22 : decode y_S_init.2.1 22 = .ok (.aload_n 0, 1) := by decide +kernel
theorem d_S_init_23 : decode y_S_init.2.1 23 = .ok (.sipush 5000, 3) := by decide +kernel
theorem d_S_init_26 : decode y_S_init.2.1 26 = .ok (.newarray .int, 2) := by decide +kernel
theorem d_S_init_28 : decode y_S_init.2.1 28 = .ok (.putfield 19, 3) := by decide +kernel
theorem d_S_init_31 : decode y_S_init.2.1 31 = .ok (.aload_n 0, 1) := by decide +kernel
theorem d_S_init_32 : decode y_S_init.2.1 32 = .ok (.sipush 5000, 3) := by decide +kernel
theorem d_S_init_35 : decode y_S_init.2.1 35 = .ok (.newarray .int, 2) := by decide +kernel
theorem d_S_init_37 : decode y_S_init.2.1 37 = .ok (.putfield 22, 3) := by decide +kernel
theorem d_S_init_40 : decode y_S_init.2.1 40 = .ok (.aload_n 0, 1) := by decide +kernel
theorem d_S_init_41 : decode y_S_init.2.1 41 = .ok (.sipush 5000, 3) := by decide +kernel
theorem d_S_init_44 : decode y_S_init.2.1 44 = .ok (.newarray .int, 2) := by decide +kernel
theorem d_S_init_46 : decode y_S_init.2.1 46 = .ok (.putfield 25, 3) := by decide +kernel
theorem d_S_init_49 : decode y_S_init.2.1 49 = .ok (.aload_n 0, 1) := by decide +kernel
theorem d_S_init_50 : decode y_S_init.2.1 50 = .ok (.sipush 16384, 3) := by decide +kernel
theorem d_S_init_53 : decode y_S_init.2.1 53 = .ok (.newarray .int, 2) := by decide +kernel
theorem d_S_init_55 : decode y_S_init.2.1 55 = .ok (.putfield 28, 3) := by decide +kernel
theorem d_S_init_58 : decode y_S_init.2.1 58 = .ok (.aload_n 0, 1) := by decide +kernel
theorem d_S_init_59 : decode y_S_init.2.1 59 = .ok (.sipush 5000, 3) := by decide +kernel
theorem d_S_init_62 : decode y_S_init.2.1 62 = .ok (.newarray .int, 2) := by decide +kernel
theorem d_S_init_64 : decode y_S_init.2.1 64 = .ok (.putfield 31, 3) := by decide +kernel
theorem d_S_init_67 : decode y_S_init.2.1 67 = .ok (.aload_n 0, 1) := by decide +kernel
theorem d_S_init_68 : decode y_S_init.2.1 68 = .ok (.sipush 5001, 3) := by decide +kernel
theorem d_S_init_71 : decode y_S_init.2.1 71 = .ok (.newarray .int, 2) := by decide +kernel
theorem d_S_init_73 : decode y_S_init.2.1 73 = .ok (.putfield 34, 3) := by decide +kernel
theorem d_S_init_76 : decode y_S_init.2.1 76 = .ok (.aload_n 0, 1) := by decide +kernel
theorem d_S_init_77 : decode y_S_init.2.1 77 = .ok (.ldc 37, 2) := by decide +kernel
theorem d_S_init_79 : decode y_S_init.2.1 79 = .ok (.newarray .int, 2) := by decide +kernel
theorem d_S_init_81 : decode y_S_init.2.1 81 = .ok (.putfield 38, 3) := by decide +kernel
theorem d_S_init_84 : decode y_S_init.2.1 84 = .ok (.return_, 1) := by decide +kernel
theorem d_S_clear_0 : decode y_S_clear.2.1 0 = .ok (.iconst 0, 1) := by decide +kernel
theorem d_S_clear_1 : decode y_S_clear.2.1 1 = .ok (.istore_n 1, 1) := by decide +kernel
theorem d_S_clear_2 : decode y_S_clear.2.1 2 = .ok (.iload_n 1, 1) := by decide +kernel
theorem d_S_clear_3 : decode y_S_clear.2.1 3 = .ok (.aload_n 0, 1) := by decide +kernel
theorem d_S_clear_4 : decode y_S_clear.2.1 4 = .ok (.getfield 41, 3) := by decide +kernel
theorem d_S_clear_7 : decode y_S_clear.2.1 7 = .ok (.if_icmp .ge 21, 3) := by decide +kernel
theorem d_S_clear_10 : decode y_S_clear.2.1 10 = .ok (.aload_n 0, 1) := by decide +kernel
theorem d_S_clear_11 : decode y_S_clear.2.1 11 = .ok (.getfield 28, 3) := by decide +kernel
theorem d_S_clear_14 : decode y_S_clear.2.1 14 = .ok (.aload_n 0, 1) := by decide +kernel
theorem d_S_clear_15 : decode y_S_clear.2.1 15 = .ok (.getfield 31, 3) := by decide +kernel
theorem d_S_clear_18 : decode y_S_clear.2.1 18 = .ok (.iload_n 1, 1) := by decide +kernel
theorem d_S_clear_19 : decode y_S_clear.2.1 19 = .ok (.iaload, 1) := by decide +kernel
theorem d_S_clear_20 : decode y_S_clear.2.1 20 = .ok (.iconst 0, 1) := by decide +kernel
theorem d_S_clear_21 : decode y_S_clear.2.1 21 = .ok (.iastore, 1) := by decide +kernel
theorem d_S_clear_22 : decode y_S_clear.2.1 22 = .ok (.iinc 1 1, 3) := by decide +kernel
theorem d_S_clear_25 : decode y_S_clear.2.1 25 = .ok (.goto (-23), 3) := by decide +kernel
theorem d_S_clear_28 : decode y_S_clear.2.1 28 = .ok (.aload_n 0, 1) := by decide +kernel
theorem d_S_clear_29 : decode y_S_clear.2.1 29 = .ok (.iconst 0, 1) := by decide +kernel
theorem d_S_clear_30 : decode y_S_clear.2.1 30 = .ok (.putfield 41, 3) := by decide +kernel
theorem d_S_clear_33 : decode y_S_clear.2.1 33 = .ok (.return_, 1) := by decide +kernel
theorem d_S_seed_0 : decode y_S_seed.2.1 0 = .ok (.aload_n 0, 1) := by decide +kernel
theorem d_S_seed_1 : decode y_S_seed.2.1 1 = .ok (.lload_n 1, 1) := by decide +kernel
theorem d_S_seed_2 : decode y_S_seed.2.1 2 = .ok (.iconst (-1), 1) := by decide +kernel
theorem d_S_seed_3 : decode y_S_seed.2.1 3 = .ok (.iconst (-1), 1) := by decide +kernel
theorem d_S_seed_4 : decode y_S_seed.2.1 4 = .ok (.invokevirtual 45, 3) := by decide +kernel
theorem d_S_seed_7 : decode y_S_seed.2.1 7 = .ok (.pop, 1) := by decide +kernel
theorem d_S_seed_8 : decode y_S_seed.2.1 8 = .ok (.return_, 1) := by decide +kernel
theorem d_S_spread_0 : decode y_S_spread.2.1 0 = .ok (.aload_n 1, 1) := by decide +kernel
theorem d_S_spread_1 : decode y_S_spread.2.1 1 = .ok (.invokevirtual 49, 3) := by decide +kernel
theorem d_S_spread_4 : decode y_S_spread.2.1 4 = .ok (.istore_n 3, 1) := by decide +kernel
theorem d_S_spread_5 : decode y_S_spread.2.1 5 = .ok (.iconst 0, 1) := by decide +kernel
theorem d_S_spread_6 : decode y_S_spread.2.1 6 = .ok (.istore 4, 2) := by decide +kernel
theorem d_S_spread_8 : decode y_S_spread.2.1 8 = .ok (.iconst 0, 1) := by decide +kernel
theorem d_S_spread_9 : decode y_S_spread.2.1 9 = .ok (.istore 5, 2) := by decide +kernel
theorem d_S_spread_11 : decode y_S_spread.2.1 11 = .ok (.iload 5, 2) := by decide +kernel
theorem d_S_spread_13 : decode y_S_spread.2.1 13 = .ok (.aload_n 0, 1) := by decide +kernel
theorem d_S_spread_14 : decode y_S_spread.2.1 14 = .ok (.getfield 41, 3) := by decide +kernel
theorem d_S_spread_17 : decode y_S_spread.2.1 17 = .ok (.if_icmp .ge 188, 3) := by decide +kernel
theorem d_S_spread_20 : decode y_S_spread.2.1 20 = .ok (.iload 5, 2) := by decide +kernel
theorem d_S_spread_22 : decode y_S_spread.2.1 22 = .ok (.sipush 5000, 3) := by decide +kernel
theorem d_S_spread_25 : decode y_S_spread.2.1 25 = .ok (.if_icmp .ge 180, 3) := by decide +kernel
theorem d_S_spread_28 : decode y_S_spread.2.1 28 = .ok (.aload_n 0, 1) := by decide +kernel
theorem d_S_spread_29 : decode y_S_spread.2.1 29 = .ok (.getfield 34, 3) := by decide +kernel
theorem d_S_spread_32 : decode y_S_spread.2.1 32 = .ok (.iload 5, 2) := by decide +kernel
theorem d_S_spread_34 : decode y_S_spread.2.1 34 = .ok (.iload 4, 2) := by decide +kernel
theorem d_S_spread_36 : decode y_S_spread.2.1 36 = .ok (.iastore, 1) := by decide +kernel
theorem d_S_spread_37 : decode y_S_spread.2.1 37 = .ok (.iconst 0, 1) := by decide +kernel
theorem d_S_spread_38 : decode y_S_spread.2.1 38 = .ok (.istore 6, 2) := by decide +kernel
theorem d_S_spread_40 : decode y_S_spread.2.1 40 = .ok (.iload 6, 2) := by decide +kernel
theorem d_S_spread_42 : decode y_S_spread.2.1 42 = .ok (.bipush 7, 2) := by decide +kernel
theorem d_S_spread_44 : decode y_S_spread.2.1 44 = .ok (.if_icmp .ge 155, 3) := by decide +kernel
theorem d_S_spread_47 : decode y_S_spread.2.1 47 = .ok (.iload_n 2, 1) := by decide +kernel
theorem d_S_spread_48 : decode y_S_spread.2.1 48 = .ok (.iconst (-1), 1) := by decide +kernel
theorem d_S_spread_49 : decode y_S_spread.2.1 49 = .ok (.if_icmp .eq 15, 3) := by decide +kernel
theorem d_S_spread_52 : decode y_S_spread.2.1 52 = .ok (.iload 6, 2) := by decide +kernel
theorem d_S_spread_54 : decode y_S_spread.2.1 54 = .ok (.iload_n 2, 1) := by decide +kernel
theorem d_S_spread_55 : decode y_S_spread.2.1 55 = .ok (.if_icmp .eq 9, 3) := by decide +kernel
theorem d_S_spread_58 : decode y_S_spread.2.1 58 = .ok (.iload 6, 2) := by decide +kernel
theorem d_S_spread_60 : decode y_S_spread.2.1 60 = .ok (.iconst 3, 1) := by decide +kernel
theorem d_S_spread_61 : decode y_S_spread.2.1 61 = .ok (.if_icmp .ne 7, 3) := by decide +kernel
theorem d_S_spread_64 : decode y_S_spread.2.1 64 = .ok (.iconst 1, 1) := by decide +kernel
theorem d_S_spread_65 : decode y_S_spread.2.1 65 = .ok (.goto 4, 3) := by decide +kernel
theorem d_S_spread_68 : decode y_S_spread.2.1 68 = .ok (.iconst 0, 1) := by decide +kernel
theorem d_S_spread_69 : decode y_S_spread.2.1 69 = .ok (.istore 7, 2) := by decide +kernel
theorem d_S_spread_71 : decode y_S_spread.2.1 71 = .ok (.iload 7, 2) := by decide +kernel
theorem d_S_spread_73 : decode y_S_spread.2.1 73 = .ok (.ifCond .eq 20, 3) := by decide +kernel
theorem d_S_spread_76 : decode y_S_spread.2.1 76 = .ok (.aload_n 1, 1) := by decide +kernel
theorem d_S_spread_77 : decode y_S_spread.2.1 77 = .ok (.aload_n 0, 1) := by decide +kernel
theorem d_S_spread_78 : decode y_S_spread.2.1 78 = .ok (.getfield 9, 3) := by decide +kernel
theorem d_S_spread_81 : decode y_S_spread.2.1 81 = .ok (.iload 5, 2) := by decide +kernel
theorem d_S_spread_83 : decode y_S_spread.2.1 83 = .ok (.laload, 1) := by decide +kernel
theorem d_S_spread_84 : decode y_S_spread.2.1 84 = .ok (.iload_n 3, 1) := by decide +kernel
theorem d_S_spread_85 : decode y_S_spread.2.1 85 = .ok (.iload 6, 2) := by decide +kernel
theorem d_S_spread_87 : decode y_S_spread.2.1 87 = .ok (.invokevirtual 55, 3) := by decide +kernel
theorem d_S_spread_90 : decode y_S_spread.2.1 90 = .ok (.goto 4, 3) := by decide +kernel
theorem d_S_spread_93 : decode y_S_spread.2.1 93 = .ok (.iconst 0, 1) := by decide +kernel
theorem d_S_spread_94 : decode y_S_spread.2.1 94 = .ok (.istore 8, 2) := by decide +kernel
theorem d_S_spread_96 : decode y_S_spread.2.1 96 = .ok (.iconst 0, 1) := by decide +kernel
theorem d_S_spread_97 : decode y_S_spread.2.1 97 = .ok (.istore 9, 2) := by decide +kernel
theorem d_S_spread_99 : decode y_S_spread.2.1 99 = .ok (.iload 8, 2) := by decide +kernel
theorem d_S_spread_101 : decode y_S_spread.2.1 101 = .ok (.iload 9, 2) := by decide +kernel
theorem d_S_spread_103 : decode y_S_spread.2.1 103 = .ok (.ishr, 1) := by decide +kernel
theorem d_S_spread_104 : decode y_S_spread.2.1 104 = .ok (.ifCond .eq 89, 3) := by decide +kernel
theorem d_S_spread_107 : decode y_S_spread.2.1 107 = .ok (.iload 9, 2) := by decide +kernel
theorem d_S_spread_109 : decode y_S_spread.2.1 109 = .ok (.bipush 12, 2) := by decide +kernel
theorem d_S_spread_111 : decode y_S_spread.2.1 111 = .ok (.if_icmp .ge 82, 3) := by decide +kernel
theorem d_S_spread_114 : decode y_S_spread.2.1 114 = .ok (.iload 8, 2) := by decide +kernel
theorem d_S_spread_116 : decode y_S_spread.2.1 116 = .ok (.iload 9, 2) := by decide +kernel
theorem d_S_spread_118 : decode y_S_spread.2.1 118 = .ok (.ishr, 1) := by decide +kernel
theorem d_S_spread_119 : decode y_S_spread.2.1 119 = .ok (.iconst 1, 1) := by decide +kernel
theorem d_S_spread_120 : decode y_S_spread.2.1 120 = .ok (.iand, 1) := by decide +kernel
theorem d_S_spread_121 : decode y_S_spread.2.1 121 = .ok (.ifCond .eq 66, 3) := by decide +kernel
theorem d_S_spread_124 : decode y_S_spread.2.1 124 = .ok (.iload 6, 2) := by decide +kernel
theorem d_S_spread_126 : decode y_S_spread.2.1 126 = .ok (.bipush 20, 2) := by decide +kernel
theorem d_S_spread_128 : decode y_S_spread.2.1 128 = .ok (.imul, 1) := by decide +kernel
theorem d_S_spread_129 : decode y_S_spread.2.1 129 = .ok (.iload 9, 2) := by decide +kernel
theorem d_S_spread_131 : decode y_S_spread.2.1 131 = .ok (.iadd, 1) := by decide +kernel
theorem d_S_spread_132 : decode y_S_spread.2.1 132 = .ok (.istore 10, 2) := by decide +kernel
theorem d_S_spread_134 : decode y_S_spread.2.1 134 = .ok (.aload_n 0, 1) := by decide +kernel
theorem d_S_spread_135 : decode y_S_spread.2.1 135 = .ok (.aload_n 1, 1) := by decide +kernel
theorem d_S_spread_136 : decode y_S_spread.2.1 136 = .ok (.aload_n 0, 1) := by decide +kernel
theorem d_S_spread_137 : decode y_S_spread.2.1 137 = .ok (.getfield 9, 3) := by decide +kernel
theorem d_S_spread_140 : decode y_S_spread.2.1 140 = .ok (.iload 5, 2) := by decide +kernel
theorem d_S_spread_142 : decode y_S_spread.2.1 142 = .ok (.laload, 1) := by decide +kernel
theorem d_S_spread_143 : decode y_S_spread.2.1 143 = .ok (.iload 10, 2) := by decide +kernel
theorem d_S_spread_145 : decode y_S_spread.2.1 145 = .ok (.invokevirtual 58, 3) := by decide +kernel
theorem d_S_spread_148 : decode y_S_spread.2.1 148 = .ok (.iload 5, 2) := by decide +kernel
theorem d_S_spread_150 : decode y_S_spread.2.1 150 = .ok (.iload 10, 2) := by decide +kernel
theorem d_S_spread_152 : decode y_S_spread.2.1 152 = .ok (.invokevirtual 45, 3) := by decide +kernel
theorem d_S_spread_155 : decode y_S_spread.2.1 155 = .ok (.istore 11, 2) := by decide +kernel
theorem d_S_spread_157 : decode y_S_spread.2.1 157 = .ok (.iload 11, 2) := by decide +kernel
theorem d_S_spread_159 : decode y_S_spread.2.1 159 = .ok (.iconst (-1), 1) := by decide +kernel
theorem d_S_spread_160 : decode y_S_spread.2.1 160 = .ok (.if_icmp .eq 13, 3) := by decide +kernel
theorem d_S_spread_163 : decode y_S_spread.2.1 163 = .ok (.iload 4, 2) := by decide +kernel
theorem d_S_spread_165 : decode y_S_spread.2.1 165 = .ok (.aload_n 0, 1) := by decide +kernel
theorem d_S_spread_166 : decode y_S_spread.2.1 166 = .ok (.getfield 38, 3) := by decide +kernel
theorem d_S_spread_169 : decode y_S_spread.2.1 169 = .ok (.arraylength, 1) := by decide +kernel
theorem d_S_spread_170 : decode y_S_spread.2.1 170 = .ok (.if_icmp .lt 5, 3) := by decide +kernel
theorem d_S_spread_173 : decode y_S_spread.2.1 173 = .ok (.iconst 0, 1) := by decide +kernel
theorem d_S_spread_174 : decode y_S_spread.2.1 174 = .ok (.ireturn, 1) := by decide +kernel
theorem d_S_spread_175 : decode y_S_spread.2.1 175 = .ok (.aload_n 0, 1) := by decide +kernel
theorem d_S_spread_176 : decode y_S_spread.2.1 176 = .ok (.getfield 38, 3) := by decide +kernel
theorem d_S_spread_179 : decode y_S_spread.2.1 179 = .ok (.iload 4, 2) := by decide +kernel
theorem d_S_spread_181 : decode y_S_spread.2.1 181 = .ok (.iload 11, 2) := by decide +kernel
theorem d_S_spread_183 : decode y_S_spread.2.1 183 = .ok (.iastore, 1) := by decide +kernel
theorem d_S_spread_184 : decode y_S_spread.2.1 184 = .ok (.iinc 4 1, 3) := by decide +kernel
theorem d_S_spread_187 : decode y_S_spread.2.1 187 = .ok (.iinc 9 1, 3) := by decide +kernel
theorem d_S_spread_190 : decode y_S_spread.2.1 190 = .ok (.goto (-91), 3) := by decide +kernel
theorem d_S_spread_193 : decode y_S_spread.2.1 193 = .ok (.iinc 6 1, 3) := by decide +kernel
theorem d_S_spread_196 : decode y_S_spread.2.1 196 = .ok (.goto (-156), 3) := by decide +kernel
theorem d_S_spread_199 : decode y_S_spread.2.1 199 = .ok (.iinc 5 1, 3) := by decide +kernel
theorem d_S_spread_202 : decode y_S_spread.2.1 202 = .ok (.goto (-191), 3) := by decide +kernel
theorem d_S_spread_205 : decode y_S_spread.2.1 205 = .ok (.aload_n 0, 1) := by decide +kernel
theorem d_S_spread_206 : decode y_S_spread.2.1 206 = .ok (.getfield 34, 3) := by decide +kernel
theorem d_S_spread_209 : decode y_S_spread.2.1 209 = .ok (.aload_n 0, 1) := by decide +kernel
theorem d_S_spread_210 : decode y_S_spread.2.1 210 = .ok (.getfield 41, 3) := by decide +kernel
theorem d_S_spread_213 : decode y_S_spread.2.1 213 = .ok (.iload 4, 2) := by decide +kernel
theorem d_S_spread_215 : decode y_S_spread.2.1 215 = .ok (.iastore, 1) := by decide +kernel
theorem d_S_spread_216 : decode y_S_spread.2.1 216 = .ok (.iconst 1, 1) := by decide +kernel
theorem d_S_spread_217 : decode y_S_spread.2.1 217 = .ok (.ireturn, 1) := by decide +kernel
theorem d_S_place_0 : decode y_S_place.2.1 0 = .ok (.aload_n 0, 1) := by decide +kernel
theorem d_S_place_1 : decode y_S_place.2.1 1 = .ok (.lload_n 1, 1) := by decide +kernel
theorem d_S_place_2 : decode y_S_place.2.1 2 = .ok (.invokevirtual 62, 3) := by decide +kernel
theorem d_S_place_5 : decode y_S_place.2.1 5 = .ok (.istore 5, 2) := by decide +kernel
theorem d_S_place_7 : decode y_S_place.2.1 7 = .ok (.aload_n 0, 1) := by decide +kernel
theorem d_S_place_8 : decode y_S_place.2.1 8 = .ok (.getfield 28, 3) := by decide +kernel
theorem d_S_place_11 : decode y_S_place.2.1 11 = .ok (.iload 5, 2) := by decide +kernel
theorem d_S_place_13 : decode y_S_place.2.1 13 = .ok (.iaload, 1) := by decide +kernel
theorem d_S_place_14 : decode y_S_place.2.1 14 = .ok (.ifCond .le 13, 3) := by decide +kernel
theorem d_S_place_17 : decode y_S_place.2.1 17 = .ok (.aload_n 0, 1) := by decide +kernel
theorem d_S_place_18 : decode y_S_place.2.1 18 = .ok (.getfield 28, 3) := by decide +kernel
theorem d_S_place_21 : decode y_S_place.2.1 21 = .ok (.iload 5, 2) := by decide +kernel
theorem d_S_place_23 : decode y_S_place.2.1 23 = .ok (.iaload, 1) := by decide +kernel
theorem d_S_place_24 : decode y_S_place.2.1 24 = .ok (.iconst 1, 1) := by decide +kernel
theorem d_S_place_25 : decode y_S_place.2.1 25 = .ok (.isub, 1) := by decide +kernel
theorem d_S_place_26 : decode y_S_place.2.1 26 = .ok (.ireturn, 1) := by decide +kernel
theorem d_S_place_27 : decode y_S_place.2.1 27 = .ok (.aload_n 0, 1) := by decide +kernel
theorem d_S_place_28 : decode y_S_place.2.1 28 = .ok (.getfield 41, 3) := by decide +kernel
theorem d_S_place_31 : decode y_S_place.2.1 31 = .ok (.sipush 5000, 3) := by decide +kernel
theorem d_S_place_34 : decode y_S_place.2.1 34 = .ok (.if_icmp .lt 5, 3) := by decide +kernel
theorem d_S_place_37 : decode y_S_place.2.1 37 = .ok (.iconst (-1), 1) := by decide +kernel
theorem d_S_place_38 : decode y_S_place.2.1 38 = .ok (.ireturn, 1) := by decide +kernel
theorem d_S_place_39 : decode y_S_place.2.1 39 = .ok (.aload_n 0, 1) := by decide +kernel
theorem d_S_place_40 : decode y_S_place.2.1 40 = .ok (.getfield 9, 3) := by decide +kernel
theorem d_S_place_43 : decode y_S_place.2.1 43 = .ok (.aload_n 0, 1) := by decide +kernel
theorem d_S_place_44 : decode y_S_place.2.1 44 = .ok (.getfield 41, 3) := by decide +kernel
theorem d_S_place_47 : decode y_S_place.2.1 47 = .ok (.lload_n 1, 1) := by decide +kernel
theorem d_S_place_48 : decode y_S_place.2.1 48 = .ok (.lastore, 1) := by decide +kernel
theorem d_S_place_49 : decode y_S_place.2.1 49 = .ok (.aload_n 0, 1) := by decide +kernel
theorem d_S_place_50 : decode y_S_place.2.1 50 = .ok (.getfield 15, 3) := by decide +kernel
theorem d_S_place_53 : decode y_S_place.2.1 53 = .ok (.aload_n 0, 1) := by decide +kernel
theorem d_S_place_54 : decode y_S_place.2.1 54 = .ok (.getfield 41, 3) := by decide +kernel
theorem d_S_place_57 : decode y_S_place.2.1 57 = .ok (.iload_n 3, 1) := by decide +kernel
theorem d_S_place_58 : decode y_S_place.2.1 58 = .ok (.iastore, 1) := by decide +kernel
theorem d_S_place_59 : decode y_S_place.2.1 59 = .ok (.aload_n 0, 1) := by decide +kernel
theorem d_S_place_60 : decode y_S_place.2.1 60 = .ok (.getfield 19, 3) := by decide +kernel
theorem d_S_place_63 : decode y_S_place.2.1 63 = .ok (.aload_n 0, 1) := by decide +kernel
theorem d_S_place_64 : decode y_S_place.2.1 64 = .ok (.getfield 41, 3) := by decide +kernel
theorem d_S_place_67 : decode y_S_place.2.1 67 = .ok (.iload 4, 2) := by decide +kernel
theorem d_S_place_69 : decode y_S_place.2.1 69 = .ok (.iastore, 1) := by decide +kernel
theorem d_S_place_70 : decode y_S_place.2.1 70 = .ok (.aload_n 0, 1) := by decide +kernel
theorem d_S_place_71 : decode y_S_place.2.1 71 = .ok (.getfield 22, 3) := by decide +kernel
theorem d_S_place_74 : decode y_S_place.2.1 74 = .ok (.aload_n 0, 1) := by decide +kernel
theorem d_S_place_75 : decode y_S_place.2.1 75 = .ok (.getfield 41, 3) := by decide +kernel
theorem d_S_place_78 : decode y_S_place.2.1 78 = .ok (.iload_n 3, 1) := by decide +kernel
theorem d_S_place_79 : decode y_S_place.2.1 79 = .ok (.iconst (-1), 1) := by decide +kernel
theorem d_S_place_80 : decode y_S_place.2.1 80 = .ok (.if_icmp .ne 7, 3) := by decide +kernel
theorem d_S_place_83 : decode y_S_place.2.1 83 = .ok (.iconst 0, 1) := by decide +kernel
theorem d_S_place_84 : decode y_S_place.2.1 84 = .ok (.goto 11, 3) := by decide +kernel
theorem d_S_place_87 : decode y_S_place.2.1 87 = .ok (.aload_n 0, 1) := by decide +kernel
theorem d_S_place_88 : decode y_S_place.2.1 88 = .ok (.getfield 22, 3) := by decide +kernel
theorem d_S_place_91 : decode y_S_place.2.1 91 = .ok (.iload_n 3, 1) := by decide +kernel
theorem d_S_place_92 : decode y_S_place.2.1 92 = .ok (.iaload, 1) := by decide +kernel
theorem d_S_place_93 : decode y_S_place.2.1 93 = .ok (.iconst 1, 1) := by decide +kernel
theorem d_S_place_94 : decode y_S_place.2.1 94 = .ok (.iadd, 1) := by decide +kernel
theorem d_S_place_95 : decode y_S_place.2.1 95 = .ok (.iastore, 1) := by decide +kernel
theorem d_S_place_96 : decode y_S_place.2.1 96 = .ok (.aload_n 0, 1) := by decide +kernel
theorem d_S_place_97 : decode y_S_place.2.1 97 = .ok (.getfield 31, 3) := by decide +kernel
theorem d_S_place_100 : decode y_S_place.2.1 100 = .ok (.aload_n 0, 1) := by decide +kernel
theorem d_S_place_101 : decode y_S_place.2.1 101 = .ok (.getfield 41, 3) := by decide +kernel
theorem d_S_place_104 : decode y_S_place.2.1 104 = .ok (.iload 5, 2) := by decide +kernel
theorem d_S_place_106 : decode y_S_place.2.1 106 = .ok (.iastore, 1) := by decide +kernel
theorem d_S_place_107 : decode y_S_place.2.1 107 = .ok (.aload_n 0, 1) := by decide +kernel
theorem d_S_place_108 : decode y_S_place.2.1 108 = .ok (.dup, 1) := by decide +kernel
theorem d_S_place_109 : decode y_S_place.2.1 109 = .ok (.getfield 41, 3) := by decide +kernel
theorem d_S_place_112 : decode y_S_place.2.1 112 = .ok (.iconst 1, 1) := by decide +kernel
theorem d_S_place_113 : decode y_S_place.2.1 113 = .ok (.iadd, 1) := by decide +kernel
theorem d_S_place_114 : decode y_S_place.2.1 114 = .ok (.putfield 41, 3) := by decide +kernel
theorem d_S_place_117 : decode y_S_place.2.1 117 = .ok (.aload_n 0, 1) := by decide +kernel
theorem d_S_place_118 : decode y_S_place.2.1 118 = .ok (.getfield 28, 3) := by decide +kernel
theorem d_S_place_121 : decode y_S_place.2.1 121 = .ok (.iload 5, 2) := by decide +kernel
theorem d_S_place_123 : decode y_S_place.2.1 123 = .ok (.aload_n 0, 1) := by decide +kernel
theorem d_S_place_124 : decode y_S_place.2.1 124 = .ok (.getfield 41, 3) := by decide +kernel
theorem d_S_place_127 : decode y_S_place.2.1 127 = .ok (.iastore, 1) := by decide +kernel
theorem d_S_place_128 : decode y_S_place.2.1 128 = .ok (.aload_n 0, 1) := by decide +kernel
theorem d_S_place_129 : decode y_S_place.2.1 129 = .ok (.getfield 41, 3) := by decide +kernel
theorem d_S_place_132 : decode y_S_place.2.1 132 = .ok (.iconst 1, 1) := by decide +kernel
theorem d_S_place_133 : decode y_S_place.2.1 133 = .ok (.isub, 1) := by decide +kernel
theorem d_S_place_134 : decode y_S_place.2.1 134 = .ok (.ireturn, 1) := by decide +kernel
theorem d_S_slotOf_0 : decode y_S_slotOf.2.1 0 = .ok (.lload_n 1, 1) := by decide +kernel
theorem d_S_slotOf_1 : decode y_S_slotOf.2.1 1 = .ok (.lload_n 1, 1) := by decide +kernel
theorem d_S_slotOf_2 : decode y_S_slotOf.2.1 2 = .ok (.bipush 21, 2) := by decide +kernel
theorem d_S_slotOf_4 : decode y_S_slotOf.2.1 4 = .ok (.lushr, 1) := by decide +kernel
theorem d_S_slotOf_5 : decode y_S_slotOf.2.1 5 = .ok (.lxor, 1) := by decide +kernel
theorem d_S_slotOf_6 : decode y_S_slotOf.2.1 6 = .ok (.l2i, 1) := by decide +kernel
theorem d_S_slotOf_7 : decode y_S_slotOf.2.1 7 = .ok (.ldc 66, 2) := by decide +kernel
theorem d_S_slotOf_9 : decode y_S_slotOf.2.1 9 = .ok (.imul, 1) := by decide +kernel
theorem d_S_slotOf_10 : decode y_S_slotOf.2.1 10 = .ok (.istore_n 3, 1) := by decide +kernel
theorem d_S_slotOf_11 : decode y_S_slotOf.2.1 11 = .ok (.iload_n 3, 1) := by decide +kernel
theorem d_S_slotOf_12 : decode y_S_slotOf.2.1 12 = .ok (.bipush 18, 2) := by decide +kernel
theorem d_S_slotOf_14 : decode y_S_slotOf.2.1 14 = .ok (.iushr, 1) := by decide +kernel
theorem d_S_slotOf_15 : decode y_S_slotOf.2.1 15 = .ok (.istore 4, 2) := by decide +kernel
theorem d_S_slotOf_17 : decode y_S_slotOf.2.1 17 = .ok (.iconst 0, 1) := by decide +kernel
theorem d_S_slotOf_18 : decode y_S_slotOf.2.1 18 = .ok (.istore 5, 2) := by decide +kernel
theorem d_S_slotOf_20 : decode y_S_slotOf.2.1 20 = .ok (.iload 5, 2) := by decide +kernel
theorem d_S_slotOf_22 : decode y_S_slotOf.2.1 22 = .ok (.sipush 16384, 3) := by decide +kernel
theorem d_S_slotOf_25 : decode y_S_slotOf.2.1 25 = .ok (.if_icmp .ge 51, 3) := by decide +kernel
theorem d_S_slotOf_28 : decode y_S_slotOf.2.1 28 = .ok (.aload_n 0, 1) := by decide +kernel
theorem d_S_slotOf_29 : decode y_S_slotOf.2.1 29 = .ok (.getfield 28, 3) := by decide +kernel
theorem d_S_slotOf_32 : decode y_S_slotOf.2.1 32 = .ok (.iload 4, 2) := by decide +kernel
theorem d_S_slotOf_34 : decode y_S_slotOf.2.1 34 = .ok (.iaload, 1) := by decide +kernel
theorem d_S_slotOf_35 : decode y_S_slotOf.2.1 35 = .ok (.ifCond .eq 22, 3) := by decide +kernel
theorem d_S_slotOf_38 : decode y_S_slotOf.2.1 38 = .ok (.aload_n 0, 1) := by decide +kernel
theorem d_S_slotOf_39 : decode y_S_slotOf.2.1 39 = .ok (.getfield 9, 3) := by decide +kernel
theorem d_S_slotOf_42 : decode y_S_slotOf.2.1 42 = .ok (.aload_n 0, 1) := by decide +kernel
theorem d_S_slotOf_43 : decode y_S_slotOf.2.1 43 = .ok (.getfield 28, 3) := by decide +kernel
theorem d_S_slotOf_46 : decode y_S_slotOf.2.1 46 = .ok (.iload 4, 2) := by decide +kernel
theorem d_S_slotOf_48 : decode y_S_slotOf.2.1 48 = .ok (.iaload, 1) := by decide +kernel
theorem d_S_slotOf_49 : decode y_S_slotOf.2.1 49 = .ok (.iconst 1, 1) := by decide +kernel
theorem d_S_slotOf_50 : decode y_S_slotOf.2.1 50 = .ok (.isub, 1) := by decide +kernel
theorem d_S_slotOf_51 : decode y_S_slotOf.2.1 51 = .ok (.laload, 1) := by decide +kernel
theorem d_S_slotOf_52 : decode y_S_slotOf.2.1 52 = .ok (.lload_n 1, 1) := by decide +kernel
theorem d_S_slotOf_53 : decode y_S_slotOf.2.1 53 = .ok (.lcmp, 1) := by decide +kernel
theorem d_S_slotOf_54 : decode y_S_slotOf.2.1 54 = .ok (.ifCond .ne 6, 3) := by decide +kernel
theorem d_S_slotOf_57 : decode y_S_slotOf.2.1 57 = .ok (.iload 4, 2) := by decide +kernel
theorem d_S_slotOf_59 : decode y_S_slotOf.2.1 59 = .ok (.ireturn, 1) := by decide +kernel
theorem d_S_slotOf_60 : decode y_S_slotOf.2.1 60 = .ok (.iload 4, 2) := by decide +kernel
theorem d_S_slotOf_62 : decode y_S_slotOf.2.1 62 = .ok (.iconst 1, 1) := by decide +kernel
theorem d_S_slotOf_63 : decode y_S_slotOf.2.1 63 = .ok (.iadd, 1) := by decide +kernel
theorem d_S_slotOf_64 : decode y_S_slotOf.2.1 64 = .ok (.sipush 16383, 3) := by decide +kernel
theorem d_S_slotOf_67 : decode y_S_slotOf.2.1 67 = .ok (.iand, 1) := by decide +kernel
theorem d_S_slotOf_68 : decode y_S_slotOf.2.1 68 = .ok (.istore 4, 2) := by decide +kernel
theorem d_S_slotOf_70 : decode y_S_slotOf.2.1 70 = .ok (.iinc 5 1, 3) := by decide +kernel
theorem d_S_slotOf_73 : decode y_S_slotOf.2.1 73 = .ok (.goto (-53), 3) := by decide +kernel
theorem d_S_slotOf_76 : decode y_S_slotOf.2.1 76 = .ok (.iload 4, 2) := by decide +kernel
theorem d_S_slotOf_78 : decode y_S_slotOf.2.1 78 = .ok (.ireturn, 1) := by decide +kernel
theorem d_S_indexOf_0 : decode y_S_indexOf.2.1 0 = .ok (.aload_n 0, 1) := by decide +kernel
theorem d_S_indexOf_1 : decode y_S_indexOf.2.1 1 = .ok (.getfield 28, 3) := by decide +kernel
theorem d_S_indexOf_4 : decode y_S_indexOf.2.1 4 = .ok (.aload_n 0, 1) := by decide +kernel
theorem d_S_indexOf_5 : decode y_S_indexOf.2.1 5 = .ok (.lload_n 1, 1) := by decide +kernel
theorem d_S_indexOf_6 : decode y_S_indexOf.2.1 6 = .ok (.invokevirtual 62, 3) := by decide +kernel
theorem d_S_indexOf_9 : decode y_S_indexOf.2.1 9 = .ok (.iaload, 1) := by decide +kernel
theorem d_S_indexOf_10 : decode y_S_indexOf.2.1 10 = .ok (.iconst 1, 1) := by decide +kernel
theorem d_S_indexOf_11 : decode y_S_indexOf.2.1 11 = .ok (.isub, 1) := by decide +kernel
theorem d_S_indexOf_12 : decode y_S_indexOf.2.1 12 = .ok (.ireturn, 1) := by decide +kernel
theorem d_S_firstWith_0 : decode y_S_firstWith.2.1 0 = .ok (.iconst 0, 1) := by decide +kernel
theorem d_S_firstWith_1 : decode y_S_firstWith.2.1 1 = .ok (.istore_n 2, 1) := by decide +kernel
theorem d_S_firstWith_2 : decode y_S_firstWith.2.1 2 = .ok (.iload_n 2, 1) := by decide +kernel
theorem d_S_firstWith_3 : decode y_S_firstWith.2.1 3 = .ok (.aload_n 0, 1) := by decide +kernel
theorem d_S_firstWith_4 : decode y_S_firstWith.2.1 4 = .ok (.getfield 41, 3) := by decide +kernel
theorem d_S_firstWith_7 : decode y_S_firstWith.2.1 7 = .ok (.if_icmp .ge 27, 3) := by decide +kernel
theorem d_S_firstWith_10 : decode y_S_firstWith.2.1 10 = .ok (.iload_n 1, 1) := by decide +kernel
theorem d_S_firstWith_11 : decode y_S_firstWith.2.1 11 = .ok (.aload_n 0, 1) := by decide +kernel
theorem d_S_firstWith_12 : decode y_S_firstWith.2.1 12 = .ok (.getfield 9, 3) := by decide +kernel
theorem d_S_firstWith_15 : decode y_S_firstWith.2.1 15 = .ok (.iload_n 2, 1) := by decide +kernel
theorem d_S_firstWith_16 : decode y_S_firstWith.2.1 16 = .ok (.laload, 1) := by decide +kernel
theorem d_S_firstWith_17 : decode y_S_firstWith.2.1 17 = .ok (.invokestatic 67, 3) := by decide +kernel
theorem d_S_firstWith_20 : decode y_S_firstWith.2.1 20 = .ok (.iconst (-1), 1) := by decide +kernel
theorem d_S_firstWith_21 : decode y_S_firstWith.2.1 21 = .ok (.ixor, 1) := by decide +kernel
theorem d_S_firstWith_22 : decode y_S_firstWith.2.1 22 = .ok (.iand, 1) := by decide +kernel
theorem d_S_firstWith_23 : decode y_S_firstWith.2.1 23 = .ok (.ifCond .ne 5, 3) := by decide +kernel
theorem d_S_firstWith_26 : decode y_S_firstWith.2.1 26 = .ok (.iload_n 2, 1) := by decide +kernel
theorem d_S_firstWith_27 : decode y_S_firstWith.2.1 27 = .ok (.ireturn, 1) := by decide +kernel
theorem d_S_firstWith_28 : decode y_S_firstWith.2.1 28 = .ok (.iinc 2 1, 3) := by decide +kernel
theorem d_S_firstWith_31 : decode y_S_firstWith.2.1 31 = .ok (.goto (-29), 3) := by decide +kernel
theorem d_S_firstWith_34 : decode y_S_firstWith.2.1 34 = .ok (.iconst (-1), 1) := by decide +kernel
theorem d_S_firstWith_35 : decode y_S_firstWith.2.1 35 = .ok (.ireturn, 1) := by decide +kernel
theorem d_S_union_0 : decode y_S_union.2.1 0 = .ok (.iconst 0, 1) := by decide +kernel
theorem d_S_union_1 : decode y_S_union.2.1 1 = .ok (.istore_n 1, 1) := by decide +kernel
theorem d_S_union_2 : decode y_S_union.2.1 2 = .ok (.iconst 0, 1) := by decide +kernel
theorem d_S_union_3 : decode y_S_union.2.1 3 = .ok (.istore_n 2, 1) := by decide +kernel
theorem d_S_union_4 : decode y_S_union.2.1 4 = .ok (.iload_n 2, 1) := by decide +kernel
theorem d_S_union_5 : decode y_S_union.2.1 5 = .ok (.aload_n 0, 1) := by decide +kernel
theorem d_S_union_6 : decode y_S_union.2.1 6 = .ok (.getfield 41, 3) := by decide +kernel
theorem d_S_union_9 : decode y_S_union.2.1 9 = .ok (.if_icmp .ge 21, 3) := by decide +kernel
theorem d_S_union_12 : decode y_S_union.2.1 12 = .ok (.iload_n 1, 1) := by decide +kernel
theorem d_S_union_13 : decode y_S_union.2.1 13 = .ok (.aload_n 0, 1) := by decide +kernel
theorem d_S_union_14 : decode y_S_union.2.1 14 = .ok (.getfield 9, 3) := by decide +kernel
theorem d_S_union_17 : decode y_S_union.2.1 17 = .ok (.iload_n 2, 1) := by decide +kernel
theorem d_S_union_18 : decode y_S_union.2.1 18 = .ok (.laload, 1) := by decide +kernel
theorem d_S_union_19 : decode y_S_union.2.1 19 = .ok (.invokestatic 67, 3) := by decide +kernel
theorem d_S_union_22 : decode y_S_union.2.1 22 = .ok (.ior, 1) := by decide +kernel
theorem d_S_union_23 : decode y_S_union.2.1 23 = .ok (.istore_n 1, 1) := by decide +kernel
theorem d_S_union_24 : decode y_S_union.2.1 24 = .ok (.iinc 2 1, 3) := by decide +kernel
theorem d_S_union_27 : decode y_S_union.2.1 27 = .ok (.goto (-23), 3) := by decide +kernel
theorem d_S_union_30 : decode y_S_union.2.1 30 = .ok (.iload_n 1, 1) := by decide +kernel
theorem d_S_union_31 : decode y_S_union.2.1 31 = .ok (.ireturn, 1) := by decide +kernel
theorem d_S_farthest_0 : decode y_S_farthest.2.1 0 = .ok (.aload_n 0, 1) := by decide +kernel
theorem d_S_farthest_1 : decode y_S_farthest.2.1 1 = .ok (.getfield 41, 3) := by decide +kernel
theorem d_S_farthest_4 : decode y_S_farthest.2.1 4 = .ok (.ifCond .le 17, 3) := by decide +kernel
theorem d_S_farthest_7 : decode y_S_farthest.2.1 7 = .ok (.aload_n 0, 1) := by decide +kernel
theorem d_S_farthest_8 : decode y_S_farthest.2.1 8 = .ok (.getfield 22, 3) := by decide +kernel
theorem d_S_farthest_11 : decode y_S_farthest.2.1 11 = .ok (.aload_n 0, 1) := by decide +kernel
theorem d_S_farthest_12 : decode y_S_farthest.2.1 12 = .ok (.getfield 41, 3) := by decide +kernel
theorem d_S_farthest_15 : decode y_S_farthest.2.1 15 = .ok (.iconst 1, 1) := by decide +kernel
theorem d_S_farthest_16 : decode y_S_farthest.2.1 16 = .ok (.isub, 1) := by decide +kernel
theorem d_S_farthest_17 : decode y_S_farthest.2.1 17 = .ok (.iaload, 1) := by decide +kernel
theorem d_S_farthest_18 : decode y_S_farthest.2.1 18 = .ok (.goto 4, 3) := by decide +kernel
theorem d_S_farthest_21 : decode y_S_farthest.2.1 21 = .ok (.iconst 0, 1) := by decide +kernel
theorem d_S_farthest_22 : decode y_S_farthest.2.1 22 = .ok (.ireturn, 1) := by decide +kernel
theorem d_S_gather_0 : decode y_S_gather.2.1 0 = .ok (.iconst 0, 1) := by decide +kernel
theorem d_S_gather_1 : decode y_S_gather.2.1 1 = .ok (.istore_n 1, 1) := by decide +kernel
theorem d_S_gather_2 : decode y_S_gather.2.1 2 = .ok (.iload_n 1, 1) := by decide +kernel
theorem d_S_gather_3 : decode y_S_gather.2.1 3 = .ok (.aload_n 0, 1) := by decide +kernel
theorem d_S_gather_4 : decode y_S_gather.2.1 4 = .ok (.getfield 41, 3) := by decide +kernel
theorem d_S_gather_7 : decode y_S_gather.2.1 7 = .ok (.if_icmp .ge 24, 3) := by decide +kernel
theorem d_S_gather_10 : decode y_S_gather.2.1 10 = .ok (.aload_n 0, 1) := by decide +kernel
theorem d_S_gather_11 : decode y_S_gather.2.1 11 = .ok (.getfield 25, 3) := by decide +kernel
theorem d_S_gather_14 : decode y_S_gather.2.1 14 = .ok (.iload_n 1, 1) := by decide +kernel
theorem d_S_gather_15 : decode y_S_gather.2.1 15 = .ok (.aload_n 0, 1) := by decide +kernel
theorem d_S_gather_16 : decode y_S_gather.2.1 16 = .ok (.getfield 9, 3) := by decide +kernel
theorem d_S_gather_19 : decode y_S_gather.2.1 19 = .ok (.iload_n 1, 1) := by decide +kernel
theorem d_S_gather_20 : decode y_S_gather.2.1 20 = .ok (.laload, 1) := by decide +kernel
theorem d_S_gather_21 : decode y_S_gather.2.1 21 = .ok (.invokestatic 67, 3) := by decide +kernel
theorem d_S_gather_24 : decode y_S_gather.2.1 24 = .ok (.iastore, 1) := by decide +kernel
theorem d_S_gather_25 : decode y_S_gather.2.1 25 = .ok (.iinc 1 1, 3) := by decide +kernel
theorem d_S_gather_28 : decode y_S_gather.2.1 28 = .ok (.goto (-26), 3) := by decide +kernel
theorem d_S_gather_31 : decode y_S_gather.2.1 31 = .ok (.iconst 1, 1) := by decide +kernel
theorem d_S_gather_32 : decode y_S_gather.2.1 32 = .ok (.istore_n 1, 1) := by decide +kernel
theorem d_S_gather_33 : decode y_S_gather.2.1 33 = .ok (.iconst 0, 1) := by decide +kernel
theorem d_S_gather_34 : decode y_S_gather.2.1 34 = .ok (.istore_n 2, 1) := by decide +kernel
theorem d_S_gather_35 : decode y_S_gather.2.1 35 = .ok (.iload_n 1, 1) := by decide +kernel
theorem d_S_gather_36 : decode y_S_gather.2.1 36 = .ok (.ifCond .eq 107, 3) := by decide +kernel
theorem d_S_gather_39 : decode y_S_gather.2.1 39 = .ok (.iload_n 2, 1) := by decide +kernel
theorem d_S_gather_40 : decode y_S_gather.2.1 40 = .ok (.ldc 70, 2) := by decide +kernel
theorem d_S_gather_42 : decode y_S_gather.2.1 42 = .ok (.if_icmp .ge 101, 3) := by decide +kernel
theorem d_S_gather_45 : decode y_S_gather.2.1 45 = .ok (.iconst 0, 1) := by decide +kernel
theorem d_S_gather_46 : decode y_S_gather.2.1 46 = .ok (.istore_n 1, 1) := by decide +kernel
theorem d_S_gather_47 : decode y_S_gather.2.1 47 = .ok (.aload_n 0, 1) := by decide +kernel
theorem d_S_gather_48 : decode y_S_gather.2.1 48 = .ok (.getfield 41, 3) := by decide +kernel
theorem d_S_gather_51 : decode y_S_gather.2.1 51 = .ok (.iconst 1, 1) := by decide +kernel
theorem d_S_gather_52 : decode y_S_gather.2.1 52 = .ok (.isub, 1) := by decide +kernel
theorem d_S_gather_53 : decode y_S_gather.2.1 53 = .ok (.istore_n 3, 1) := by decide +kernel
theorem d_S_gather_54 : decode y_S_gather.2.1 54 = .ok (.iload_n 3, 1) := by decide +kernel
theorem d_S_gather_55 : decode y_S_gather.2.1 55 = .ok (.ifCond .lt 82, 3) := by decide +kernel
theorem d_S_gather_58 : decode y_S_gather.2.1 58 = .ok (.aload_n 0, 1) := by decide +kernel
theorem d_S_gather_59 : decode y_S_gather.2.1 59 = .ok (.getfield 25, 3) := by decide +kernel
theorem d_S_gather_62 : decode y_S_gather.2.1 62 = .ok (.iload_n 3, 1) := by decide +kernel
theorem d_S_gather_63 : decode y_S_gather.2.1 63 = .ok (.iaload, 1) := by decide +kernel
theorem d_S_gather_64 : decode y_S_gather.2.1 64 = .ok (.istore 4, 2) := by decide +kernel
theorem d_S_gather_66 : decode y_S_gather.2.1 66 = .ok (.aload_n 0, 1) := by decide +kernel
theorem d_S_gather_67 : decode y_S_gather.2.1 67 = .ok (.getfield 34, 3) := by decide +kernel
theorem d_S_gather_70 : decode y_S_gather.2.1 70 = .ok (.iload_n 3, 1) := by decide +kernel
theorem d_S_gather_71 : decode y_S_gather.2.1 71 = .ok (.iaload, 1) := by decide +kernel
theorem d_S_gather_72 : decode y_S_gather.2.1 72 = .ok (.istore 5, 2) := by decide +kernel
theorem d_S_gather_74 : decode y_S_gather.2.1 74 = .ok (.iload 5, 2) := by decide +kernel
theorem d_S_gather_76 : decode y_S_gather.2.1 76 = .ok (.aload_n 0, 1) := by decide +kernel
theorem d_S_gather_77 : decode y_S_gather.2.1 77 = .ok (.getfield 34, 3) := by decide +kernel
theorem d_S_gather_80 : decode y_S_gather.2.1 80 = .ok (.iload_n 3, 1) := by decide +kernel
theorem d_S_gather_81 : decode y_S_gather.2.1 81 = .ok (.iconst 1, 1) := by decide +kernel
theorem d_S_gather_82 : decode y_S_gather.2.1 82 = .ok (.iadd, 1) := by decide +kernel
theorem d_S_gather_83 : decode y_S_gather.2.1 83 = .ok (.iaload, 1) := by decide +kernel
theorem d_S_gather_84 : decode y_S_gather.2.1 84 = .ok (.if_icmp .ge 26, 3) := by decide +kernel
theorem d_S_gather_87 : decode y_S_gather.2.1 87 = .ok (.iload 4, 2) := by decide +kernel
theorem d_S_gather_89 : decode y_S_gather.2.1 89 = .ok (.aload_n 0, 1) := by decide +kernel
theorem d_S_gather_90 : decode y_S_gather.2.1 90 = .ok (.getfield 25, 3) := by decide +kernel
theorem d_S_gather_93 : decode y_S_gather.2.1 93 = .ok (.aload_n 0, 1) := by decide +kernel
theorem d_S_gather_94 : decode y_S_gather.2.1 94 = .ok (.getfield 38, 3) := by decide +kernel
theorem d_S_gather_97 : decode y_S_gather.2.1 97 = .ok (.iload 5, 2) := by decide +kernel
theorem d_S_gather_99 : decode y_S_gather.2.1 99 = .ok (.iaload, 1) := by decide +kernel
theorem d_S_gather_100 : decode y_S_gather.2.1 100 = .ok (.iaload, 1) := by decide +kernel
theorem d_S_gather_101 : decode y_S_gather.2.1 101 = .ok (.ior, 1) := by decide +kernel
theorem d_S_gather_102 : decode y_S_gather.2.1 102 = .ok (.istore 4, 2) := by decide +kernel
theorem d_S_gather_104 : decode y_S_gather.2.1 104 = .ok (.iinc 5 1, 3) := by decide +kernel
theorem d_S_gather_107 : decode y_S_gather.2.1 107 = .ok (.goto (-33), 3) := by decide +kernel
theorem d_S_gather_110 : decode y_S_gather.2.1 110 = .ok (.iload 4, 2) := by decide +kernel
theorem d_S_gather_112 : decode y_S_gather.2.1 112 = .ok (.aload_n 0, 1) := by decide +kernel
theorem d_S_gather_113 : decode y_S_gather.2.1 113 = .ok (.getfield 25, 3) := by decide +kernel
theorem d_S_gather_116 : decode y_S_gather.2.1 116 = .ok (.iload_n 3, 1) := by decide +kernel
theorem d_S_gather_117 : decode y_S_gather.2.1 117 = .ok (.iaload, 1) := by decide +kernel
theorem d_S_gather_118 : decode y_S_gather.2.1 118 = .ok (.if_icmp .eq 13, 3) := by decide +kernel
theorem d_S_gather_121 : decode y_S_gather.2.1 121 = .ok (.aload_n 0, 1) := by decide +kernel
theorem d_S_gather_122 : decode y_S_gather.2.1 122 = .ok (.getfield 25, 3) := by decide +kernel
theorem d_S_gather_125 : decode y_S_gather.2.1 125 = .ok (.iload_n 3, 1) := by decide +kernel
theorem d_S_gather_126 : decode y_S_gather.2.1 126 = .ok (.iload 4, 2) := by decide +kernel
theorem d_S_gather_128 : decode y_S_gather.2.1 128 = .ok (.iastore, 1) := by decide +kernel
theorem d_S_gather_129 : decode y_S_gather.2.1 129 = .ok (.iconst 1, 1) := by decide +kernel
theorem d_S_gather_130 : decode y_S_gather.2.1 130 = .ok (.istore_n 1, 1) := by decide +kernel
theorem d_S_gather_131 : decode y_S_gather.2.1 131 = .ok (.iinc 3 (-1), 3) := by decide +kernel
theorem d_S_gather_134 : decode y_S_gather.2.1 134 = .ok (.goto (-80), 3) := by decide +kernel
theorem d_S_gather_137 : decode y_S_gather.2.1 137 = .ok (.iinc 2 1, 3) := by decide +kernel
theorem d_S_gather_140 : decode y_S_gather.2.1 140 = .ok (.goto (-105), 3) := by decide +kernel
theorem d_S_gather_143 : decode y_S_gather.2.1 143 = .ok (.return_, 1) := by decide +kernel
theorem d_V_init_0 : decode y_V_init.2.1 0 = .ok (.aload_n 0, 1) := by decide +kernel
theorem d_V_init_1 : decode y_V_init.2.1 1 = .ok (.invokespecial 3, 3) := by decide +kernel
theorem d_V_init_4 : decode y_V_init.2.1 4 = .ok (.return_, 1) := by decide +kernel
theorem d_V_begin_0 : decode y_V_begin.2.1 0 = .ok (.aload_n 0, 1) := by decide +kernel
theorem d_V_begin_1 : decode y_V_begin.2.1 1 = .ok (.iload_n 1, 1) := by decide +kernel
theorem d_V_begin_2 : decode y_V_begin.2.1 2 = .ok (.putfield 9, 3) := by decide +kernel
theorem d_V_begin_5 : decode y_V_begin.2.1 5 = .ok (.aload_n 0, 1) := by decide +kernel
theorem d_V_begin_6 : decode y_V_begin.2.1 6 = .ok (.iconst 0, 1) := by decide +kernel
theorem d_V_begin_7 : decode y_V_begin.2.1 7 = .ok (.putfield 15, 3) := by decide +kernel
theorem d_V_begin_10 : decode y_V_begin.2.1 10 = .ok (.aload_n 0, 1) := by decide +kernel
theorem d_V_begin_11 : decode y_V_begin.2.1 11 = .ok (.bipush 12, 2) := by decide +kernel
theorem d_V_begin_13 : decode y_V_begin.2.1 13 = .ok (.putfield 18, 3) := by decide +kernel
theorem d_V_begin_16 : decode y_V_begin.2.1 16 = .ok (.aload_n 0, 1) := by decide +kernel
theorem d_V_begin_17 : decode y_V_begin.2.1 17 = .ok (.iconst 0, 1) := by decide +kernel
theorem d_V_begin_18 : decode y_V_begin.2.1 18 = .ok (.putfield 21, 3) := by decide +kernel
theorem d_V_begin_21 : decode y_V_begin.2.1 21 = .ok (.aload_n 0, 1) := by decide +kernel
theorem d_V_begin_22 : decode y_V_begin.2.1 22 = .ok (.iconst 0, 1) := by decide +kernel
theorem d_V_begin_23 : decode y_V_begin.2.1 23 = .ok (.putfield 24, 3) := by decide +kernel
theorem d_V_begin_26 : decode y_V_begin.2.1 26 = .ok (.return_, 1) := by decide +kernel
theorem d_V_take_0 : decode y_V_take.2.1 0 = .ok (.iload_n 1, 1) := by decide +kernel
theorem d_V_take_1 : decode y_V_take.2.1 1 = .ok (.invokestatic 27, 3) := by decide +kernel
theorem d_V_take_4 : decode y_V_take.2.1 4 = .ok (.istore_n 2, 1) := by decide +kernel
theorem d_V_take_5 : decode y_V_take.2.1 5 = .ok (.aload_n 0, 1) := by decide +kernel
theorem d_V_take_6 : decode y_V_take.2.1 6 = .ok (.dup, 1) := by decide +kernel
theorem d_V_take_7 : decode y_V_take.2.1 7 = .ok (.getfield 9, 3) := by decide +kernel
theorem d_V_take_10 : decode y_V_take.2.1 10 = .ok (.iload_n 1, 1) := by decide +kernel
theorem d_V_take_11 : decode y_V_take.2.1 11 = .ok (.iand, 1) := by decide +kernel
theorem d_V_take_12 : decode y_V_take.2.1 12 = .ok (.putfield 9, 3) := by decide +kernel
theorem d_V_take_15 : decode y_V_take.2.1 15 = .ok (.aload_n 0, 1) := by decide +kernel
theorem d_V_take_16 : decode y_V_take.2.1 16 = .ok (.dup, 1) := by decide +kernel
theorem d_V_take_17 : decode y_V_take.2.1 17 = .ok (.getfield 15, 3) := by decide +kernel
theorem d_V_take_20 : decode y_V_take.2.1 20 = .ok (.iload_n 1, 1) := by decide +kernel
theorem d_V_take_21 : decode y_V_take.2.1 21 = .ok (.ior, 1) := by decide +kernel
theorem d_V_take_22 : decode y_V_take.2.1 22 = .ok (.putfield 15, 3) := by decide +kernel
theorem d_V_take_25 : decode y_V_take.2.1 25 = .ok (.iload_n 2, 1) := by decide +kernel
theorem d_V_take_26 : decode y_V_take.2.1 26 = .ok (.aload_n 0, 1) := by decide +kernel
theorem d_V_take_27 : decode y_V_take.2.1 27 = .ok (.getfield 18, 3) := by decide +kernel
theorem d_V_take_30 : decode y_V_take.2.1 30 = .ok (.if_icmp .ge 18, 3) := by decide +kernel
theorem d_V_take_33 : decode y_V_take.2.1 33 = .ok (.aload_n 0, 1) := by decide +kernel
theorem d_V_take_34 : decode y_V_take.2.1 34 = .ok (.iload_n 2, 1) := by decide +kernel
theorem d_V_take_35 : decode y_V_take.2.1 35 = .ok (.putfield 18, 3) := by decide +kernel
theorem d_V_take_38 : decode y_V_take.2.1 38 = .ok (.aload_n 0, 1) := by decide +kernel
theorem d_V_take_39 : decode y_V_take.2.1 39 = .ok (.iload_n 1, 1) := by decide +kernel
theorem d_V_take_40 : decode y_V_take.2.1 40 = .ok (.putfield 21, 3) := by decide +kernel
theorem d_V_take_43 : decode y_V_take.2.1 43 = .ok (.aload_n 0, 1) := by decide +kernel
theorem d_V_take_44 : decode y_V_take.2.1 44 = .ok (.iconst 0, 1) := by decide +kernel
theorem d_V_take_45 : decode y_V_take.2.1 45 = .ok (.putfield 24, 3) := by decide +kernel
theorem d_V_take_48 : decode y_V_take.2.1 48 = .ok (.iload_n 2, 1) := by decide +kernel
theorem d_V_take_49 : decode y_V_take.2.1 49 = .ok (.aload_n 0, 1) := by decide +kernel
theorem d_V_take_50 : decode y_V_take.2.1 50 = .ok (.getfield 18, 3) := by decide +kernel
theorem d_V_take_53 : decode y_V_take.2.1 53 = .ok (.if_icmp .ne 13, 3) := by decide +kernel
theorem d_V_take_56 : decode y_V_take.2.1 56 = .ok (.aload_n 0, 1) := by decide +kernel
theorem d_V_take_57 : decode y_V_take.2.1 57 = .ok (.dup, 1) := by decide +kernel
theorem d_V_take_58 : decode y_V_take.2.1 58 = .ok (.getfield 24, 3) := by decide +kernel
theorem d_V_take_61 : decode y_V_take.2.1 61 = .ok (.iconst 1, 1) := by decide +kernel
theorem d_V_take_62 : decode y_V_take.2.1 62 = .ok (.iadd, 1) := by decide +kernel
theorem d_V_take_63 : decode y_V_take.2.1 63 = .ok (.putfield 24, 3) := by decide +kernel
theorem d_V_take_66 : decode y_V_take.2.1 66 = .ok (.return_, 1) := by decide +kernel
theorem d_T_init_0 : decode y_T_init.2.1 0 = .ok (.aload_n 0, 1) := by decide +kernel
theorem d_T_init_1 : decode y_T_init.2.1 1 = .ok (.invokespecial 3, 3) := by decide +kernel
theorem d_T_init_4 : decode y_T_init.2.1 4 = .ok (.aload_n 0, 1) := by decide +kernel
theorem d_T_init_5 : decode y_T_init.2.1 5 = .ok (.bipush 12, 2) := by decide +kernel
theorem d_T_init_7 : decode y_T_init.2.1 7 = .ok (.anewarray 9, 3) := by decide +kernel
theorem d_T_init_10 : decode y_T_init.2.1 10 = .ok (.putfield 11, 3) := by decide +kernel
theorem d_T_init_13 : decode y_T_init.2.1 13 = .ok (.aload_n 0, 1) := by decide +kernel
theorem d_T_init_14 : decode y_T_init.2.1 14 = .ok (.iconst 3, 1) := by decide +kernel
theorem d_T_init_15 : decode y_T_init.2.1 15 = .ok (.newarray .int, 2) := by decide +kernel
theorem d_T_init_17 : decode y_T_init.2.1 17 = .ok (.dup, 1) := by decide +kernel
theorem d_T_init_18 : decode y_T_init.2.1 18 = .ok (.iconst 0, 1) := by decide +kernel
theorem d_T_init_19 : decode y_T_init.2.1 19 = .ok (.iconst 3, 1) := by decide +kernel
theorem d_T_init_20 : decode y_T_init.2.1 20 = .ok (.iastore, 1) := by decide +kernel
theorem d_T_init_21 : decode y_T_init.2.1 21 = .ok (.dup, 1) := by decide +kernel
theorem d_T_init_22 : decode y_T_init.2.1 22 = .ok (.iconst 1, 1) := by decide +kernel
theorem d_T_init_23 : decode y_T_init.2.1 23 = .ok (.iconst 3, 1) := by decide +kernel
theorem d_T_init_24 : decode y_T_init.2.1 24 = .ok (.iastore, 1) := by decide +kernel
theorem d_T_init_25 : decode y_T_init.2.1 25 = .ok (.dup, 1) := by decide +kernel
theorem d_T_init_26 : decode y_T_init.2.1 26 = .ok (.iconst 2, 1) := by decide +kernel
theorem d_T_init_27 : decode y_T_init.2.1 27 = .ok (.iconst 3, 1) := by decide +kernel
theorem d_T_init_28 : decode y_T_init.2.1 28 = .ok (.iastore, 1) := by decide +kernel
theorem d_T_init_29 : decode y_T_init.2.1 29 = .ok (.putfield 17, 3) := by decide +kernel
theorem d_T_init_32 : decode y_T_init.2.1 32 = .ok (.aload_n 0, 1) := by decide +kernel
theorem d_T_init_33 : decode y_T_init.2.1 33 = .ok (.sipush 12288, 3) := by decide +kernel
theorem d_T_init_36 : decode y_T_init.2.1 36 = .ok (.newarray .int, 2) := by decide +kernel
theorem d_T_init_38 : decode y_T_init.2.1 38 = .ok (.putfield 21, 3) := by decide +kernel
theorem d_T_init_41 : decode y_T_init.2.1 41 = .ok (.aload_n 0, 1) := by decide +kernel
theorem d_T_init_42 : decode y_T_init.2.1 42 = .ok (.sipush 12288, 3) := by decide +kernel
theorem d_T_init_45 : decode y_T_init.2.1 45 = .ok (.newarray .int, 2) := by decide +kernel
theorem d_T_init_47 : decode y_T_init.2.1 47 = .ok (.putfield 24, 3) := by decide +kernel
theorem d_T_init_50 : decode y_T_init.2.1 50 = .ok (.aload_n 0, 1) := by decide +kernel
theorem d_T_init_51 : decode y_T_init.2.1 51 = .ok (.iconst 1, 1) := by decide +kernel
theorem d_T_init_52 : decode y_T_init.2.1 52 = .ok (.putfield 27, 3) := by decide +kernel
theorem d_T_init_55 : decode y_T_init.2.1 55 = .ok (.iconst 0, 1) := by decide +kernel
theorem d_T_init_56 : decode y_T_init.2.1 56 = .ok (.istore_n 1, 1) := by decide +kernel
theorem d_T_init_57 : decode y_T_init.2.1 57 = .ok (.iload_n 1, 1) := by decide +kernel
theorem d_T_init_58 : decode y_T_init.2.1 58 = .ok (.bipush 12, 2) := by decide +kernel
theorem d_T_init_60 : decode y_T_init.2.1 60 = .ok (.if_icmp .ge 22, 3) := by decide +kernel
theorem d_T_init_63 : decode y_T_init.2.1 63 = .ok (.aload_n 0, 1) := by decide +kernel
theorem d_T_init_64 : decode y_T_init.2.1 64 = .ok (.getfield 11, 3) := by decide +kernel
theorem d_T_init_67 : decode y_T_init.2.1 67 = .ok (.iload_n 1, 1) := by decide +kernel
theorem d_T_init_68 : decode y_T_init.2.1 68 = .ok (.new 9, 3) := by decide +kernel
theorem d_T_init_71 : decode y_T_init.2.1 71 = .ok (.dup, 1) := by decide +kernel
theorem d_T_init_72 : decode y_T_init.2.1 72 = .ok (.invokespecial 31, 3) := by decide +kernel
theorem d_T_init_75 : decode y_T_init.2.1 75 = .ok (.aastore, 1) := by decide +kernel
theorem d_T_init_76 : decode y_T_init.2.1 76 = .ok (.iinc 1 1, 3) := by decide +kernel
theorem d_T_init_79 : decode y_T_init.2.1 79 = .ok (.goto (-22), 3) := by decide +kernel
theorem d_T_init_82 : decode y_T_init.2.1 82 = .ok (.return_, 1) := by decide +kernel
theorem d_T_has_0 : decode y_T_has.2.1 0 = .ok (.iload_n 1, 1) := by decide +kernel
theorem d_T_has_1 : decode y_T_has.2.1 1 = .ok (.ifCond .lt 15, 3) := by decide +kernel
theorem d_T_has_4 : decode y_T_has.2.1 4 = .ok (.iload_n 1, 1) := by decide +kernel
theorem d_T_has_5 : decode y_T_has.2.1 5 = .ok (.aload_n 0, 1) := by decide +kernel
theorem d_T_has_6 : decode y_T_has.2.1 6 = .ok (.getfield 32, 3) := by decide +kernel
theorem d_T_has_9 : decode y_T_has.2.1 9 = .ok (.if_icmp .ge 7, 3) := by decide +kernel
theorem d_T_has_12 : decode y_T_has.2.1 12 = .ok (.iconst 1, 1) := by decide +kernel
theorem d_T_has_13 : decode y_T_has.2.1 13 = .ok (.goto 4, 3) := by decide +kernel
theorem d_T_has_16 : decode y_T_has.2.1 16 = .ok (.iconst 0, 1) := by decide +kernel
theorem d_T_has_17 : decode y_T_has.2.1 17 = .ok (.ireturn, 1) := by decide +kernel
theorem d_T_all_0 : decode y_T_all.2.1 0 = .ok (.iconst 1, 1) := by decide +kernel
theorem d_T_all_1 : decode y_T_all.2.1 1 = .ok (.aload_n 0, 1) := by decide +kernel
theorem d_T_all_2 : decode y_T_all.2.1 2 = .ok (.getfield 32, 3) := by decide +kernel
theorem d_T_all_5 : decode y_T_all.2.1 5 = .ok (.ishl, 1) := by decide +kernel
theorem d_T_all_6 : decode y_T_all.2.1 6 = .ok (.iconst 1, 1) := by decide +kernel
theorem d_T_all_7 : decode y_T_all.2.1 7 = .ok (.isub, 1) := by decide +kernel
theorem d_T_all_8 : decode y_T_all.2.1 8 = .ok (.ireturn, 1) := by decide +kernel
theorem d_T_beyond_0 : decode y_T_beyond.2.1 0 = .ok (.iload_n 1, 1) := by decide +kernel
theorem d_T_beyond_1 : decode y_T_beyond.2.1 1 = .ok (.aload_n 0, 1) := by decide +kernel
theorem d_T_beyond_2 : decode y_T_beyond.2.1 2 = .ok (.getfield 32, 3) := by decide +kernel
theorem d_T_beyond_5 : decode y_T_beyond.2.1 5 = .ok (.ishr, 1) := by decide +kernel
theorem d_T_beyond_6 : decode y_T_beyond.2.1 6 = .ok (.ifCond .eq 7, 3) := by decide +kernel
theorem d_T_beyond_9 : decode y_T_beyond.2.1 9 = .ok (.iconst 1, 1) := by decide +kernel
theorem d_T_beyond_10 : decode y_T_beyond.2.1 10 = .ok (.goto 4, 3) := by decide +kernel
theorem d_T_beyond_13 : decode y_T_beyond.2.1 13 = .ok (.iconst 0, 1) := by decide +kernel
theorem d_T_beyond_14 : decode y_T_beyond.2.1 14 = .ok (.ireturn, 1) := by decide +kernel
theorem d_T_forget_0 : decode y_T_forget.2.1 0 = .ok (.aload_n 0, 1) := by decide +kernel
theorem d_T_forget_1 : decode y_T_forget.2.1 1 = .ok (.dup, 1) := by decide +kernel
theorem d_T_forget_2 : decode y_T_forget.2.1 2 = .ok (.getfield 27, 3) := by decide +kernel
theorem d_T_forget_5 : decode y_T_forget.2.1 5 = .ok (.iconst 1, 1) := by decide +kernel
theorem d_T_forget_6 : decode y_T_forget.2.1 6 = .ok (.iadd, 1) := by decide +kernel
theorem d_T_forget_7 : decode y_T_forget.2.1 7 = .ok (.putfield 27, 3) := by decide +kernel
theorem d_T_forget_10 : decode y_T_forget.2.1 10 = .ok (.return_, 1) := by decide +kernel
theorem d_T_countIn_0 : decode y_T_countIn.2.1 0 = .ok (.iconst 0, 1) := by decide +kernel
theorem d_T_countIn_1 : decode y_T_countIn.2.1 1 = .ok (.istore_n 2, 1) := by decide +kernel
theorem d_T_countIn_2 : decode y_T_countIn.2.1 2 = .ok (.iload_n 2, 1) := by decide +kernel
theorem d_T_countIn_3 : decode y_T_countIn.2.1 3 = .ok (.bipush 12, 2) := by decide +kernel
theorem d_T_countIn_5 : decode y_T_countIn.2.1 5 = .ok (.if_icmp .ge 28, 3) := by decide +kernel
theorem d_T_countIn_8 : decode y_T_countIn.2.1 8 = .ok (.aload_n 0, 1) := by decide +kernel
theorem d_T_countIn_9 : decode y_T_countIn.2.1 9 = .ok (.getfield 11, 3) := by decide +kernel
theorem d_T_countIn_12 : decode y_T_countIn.2.1 12 = .ok (.iload_n 2, 1) := by decide +kernel
theorem d_T_countIn_13 : decode y_T_countIn.2.1 13 = .ok (.aaload, 1) := by decide +kernel
theorem d_T_countIn_14 : decode y_T_countIn.2.1 14 = .ok (.dup, 1) := by decide +kernel
theorem d_T_countIn_15 : decode y_T_countIn.2.1 15 = .ok (.getfield 35, 3) := by decide +kernel
theorem d_T_countIn_18 : decode y_T_countIn.2.1 18 = .ok (.iload_n 1, 1) := by decide +kernel
theorem d_T_countIn_19 : decode y_T_countIn.2.1 19 = .ok (.iload_n 2, 1) := by decide +kernel
theorem d_T_countIn_20 : decode y_T_countIn.2.1 20 = .ok (.ishr, 1) := by decide +kernel
theorem d_T_countIn_21 : decode y_T_countIn.2.1 21 = .ok (.iconst 1, 1) := by decide +kernel
theorem d_T_countIn_22 : decode y_T_countIn.2.1 22 = .ok (.iand, 1) := by decide +kernel
theorem d_T_countIn_23 : decode y_T_countIn.2.1 23 = .ok (.iadd, 1) := by decide +kernel
theorem d_T_countIn_24 : decode y_T_countIn.2.1 24 = .ok (.putfield 35, 3) := by decide +kernel
theorem d_T_countIn_27 : decode y_T_countIn.2.1 27 = .ok (.iinc 2 1, 3) := by decide +kernel
theorem d_T_countIn_30 : decode y_T_countIn.2.1 30 = .ok (.goto (-28), 3) := by decide +kernel
theorem d_T_countIn_33 : decode y_T_countIn.2.1 33 = .ok (.return_, 1) := by decide +kernel
theorem d_T_spent_0 : decode y_T_spent.2.1 0 = .ok (.iconst 0, 1) := by decide +kernel
theorem d_T_spent_1 : decode y_T_spent.2.1 1 = .ok (.istore_n 1, 1) := by decide +kernel
theorem d_T_spent_2 : decode y_T_spent.2.1 2 = .ok (.iconst 0, 1) := by decide +kernel
theorem d_T_spent_3 : decode y_T_spent.2.1 3 = .ok (.istore_n 2, 1) := by decide +kernel
theorem d_T_spent_4 : decode y_T_spent.2.1 4 = .ok (.iload_n 2, 1) := by decide +kernel
theorem d_T_spent_5 : decode y_T_spent.2.1 5 = .ok (.aload_n 0, 1) := by decide +kernel
theorem d_T_spent_6 : decode y_T_spent.2.1 6 = .ok (.getfield 32, 3) := by decide +kernel
theorem d_T_spent_9 : decode y_T_spent.2.1 9 = .ok (.if_icmp .ge 36, 3) := by decide +kernel
theorem d_T_spent_12 : decode y_T_spent.2.1 12 = .ok (.aload_n 0, 1) := by decide +kernel
theorem d_T_spent_13 : decode y_T_spent.2.1 13 = .ok (.getfield 11, 3) := by decide +kernel
theorem d_T_spent_16 : decode y_T_spent.2.1 16 = .ok (.iload_n 2, 1) := by decide +kernel
theorem d_T_spent_17 : decode y_T_spent.2.1 17 = .ok (.aaload, 1) := by decide +kernel
theorem d_T_spent_18 : decode y_T_spent.2.1 18 = .ok (.getfield 38, 3) := by decide +kernel
theorem d_T_spent_21 : decode y_T_spent.2.1 21 = .ok (.aload_n 0, 1) := by decide +kernel
theorem d_T_spent_22 : decode y_T_spent.2.1 22 = .ok (.getfield 11, 3) := by decide +kernel
theorem d_T_spent_25 : decode y_T_spent.2.1 25 = .ok (.iload_n 2, 1) := by decide +kernel
theorem d_T_spent_26 : decode y_T_spent.2.1 26 = .ok (.aaload, 1) := by decide +kernel
theorem d_T_spent_27 : decode y_T_spent.2.1 27 = .ok (.getfield 41, 3) := by decide +kernel
theorem d_T_spent_30 : decode y_T_spent.2.1 30 = .ok (.if_icmp .lt 9, 3) := by decide +kernel
theorem d_T_spent_33 : decode y_T_spent.2.1 33 = .ok (.iload_n 1, 1) := by decide +kernel
theorem d_T_spent_34 : decode y_T_spent.2.1 34 = .ok (.iconst 1, 1) := by decide +kernel
theorem d_T_spent_35 : decode y_T_spent.2.1 35 = .ok (.iload_n 2, 1) := by decide +kernel
theorem d_T_spent_36 : decode y_T_spent.2.1 36 = .ok (.ishl, 1) := by decide +kernel
theorem d_T_spent_37 : decode y_T_spent.2.1 37 = .ok (.ior, 1) := by decide +kernel
theorem d_T_spent_38 : decode y_T_spent.2.1 38 = .ok (.istore_n 1, 1) := by decide +kernel
theorem d_T_spent_39 : decode y_T_spent.2.1 39 = .ok (.iinc 2 1, 3) := by decide +kernel
theorem d_T_spent_42 : decode y_T_spent.2.1 42 = .ok (.goto (-38), 3) := by decide +kernel
theorem d_T_spent_45 : decode y_T_spent.2.1 45 = .ok (.iload_n 1, 1) := by decide +kernel
theorem d_T_spent_46 : decode y_T_spent.2.1 46 = .ok (.ireturn, 1) := by decide +kernel
theorem d_T_mayBy_0 : decode y_T_mayBy.2.1 0 = .ok (.iload_n 1, 1) := by decide +kernel
theorem d_T_mayBy_1 : decode y_T_mayBy.2.1 1 = .ok (.sipush 4096, 3) := by decide +kernel
theorem d_T_mayBy_4 : decode y_T_mayBy.2.1 4 = .ok (.imul, 1) := by decide +kernel
theorem d_T_mayBy_5 : decode y_T_mayBy.2.1 5 = .ok (.iload_n 2, 1) := by decide +kernel
theorem d_T_mayBy_6 : decode y_T_mayBy.2.1 6 = .ok (.iadd, 1) := by decide +kernel
theorem d_T_mayBy_7 : decode y_T_mayBy.2.1 7 = .ok (.istore_n 3, 1) := by decide +kernel
theorem d_T_mayBy_8 : decode y_T_mayBy.2.1 8 = .ok (.aload_n 0, 1) := by decide +kernel
theorem d_T_mayBy_9 : decode y_T_mayBy.2.1 9 = .ok (.getfield 24, 3) := by decide +kernel
theorem d_T_mayBy_12 : decode y_T_mayBy.2.1 12 = .ok (.iload_n 3, 1) := by decide +kernel
theorem d_T_mayBy_13 : decode y_T_mayBy.2.1 13 = .ok (.iaload, 1) := by decide +kernel
theorem d_T_mayBy_14 : decode y_T_mayBy.2.1 14 = .ok (.aload_n 0, 1) := by decide +kernel
theorem d_T_mayBy_15 : decode y_T_mayBy.2.1 15 = .ok (.getfield 27, 3) := by decide +kernel
theorem d_T_mayBy_18 : decode y_T_mayBy.2.1 18 = .ok (.if_icmp .eq 79, 3) := by decide +kernel
theorem d_T_mayBy_21 : decode y_T_mayBy.2.1 21 = .ok (.iconst 0, 1) := by decide +kernel
theorem d_T_mayBy_22 : decode y_T_mayBy.2.1 22 = .ok (.istore 4, 2) := by decide +kernel
theorem d_T_mayBy_24 : decode y_T_mayBy.2.1 24 = .ok (.iconst 0, 1) := by decide +kernel
theorem d_T_mayBy_25 : decode y_T_mayBy.2.1 25 = .ok (.istore 5, 2) := by decide +kernel
theorem d_T_mayBy_27 : decode y_T_mayBy.2.1 27 = .ok (.iload 5, 2) := by decide +kernel
theorem d_T_mayBy_29 : decode y_T_mayBy.2.1 29 = .ok (.aload_n 0, 1) := by decide +kernel
theorem d_T_mayBy_30 : decode y_T_mayBy.2.1 30 = .ok (.getfield 32, 3) := by decide +kernel
theorem d_T_mayBy_33 : decode y_T_mayBy.2.1 33 = .ok (.if_icmp .ge 46, 3) := by decide +kernel
theorem d_T_mayBy_36 : decode y_T_mayBy.2.1 36 = .ok (.aload_n 0, 1) := by decide +kernel
theorem d_T_mayBy_37 : decode y_T_mayBy.2.1 37 = .ok (.getfield 11, 3) := by decide +kernel
theorem d_T_mayBy_40 : decode y_T_mayBy.2.1 40 = .ok (.iload 5, 2) := by decide +kernel
theorem d_T_mayBy_42 : decode y_T_mayBy.2.1 42 = .ok (.aaload, 1) := by decide +kernel
theorem d_T_mayBy_43 : decode y_T_mayBy.2.1 43 = .ok (.invokevirtual 44, 3) := by decide +kernel
theorem d_T_mayBy_46 : decode y_T_mayBy.2.1 46 = .ok (.iload_n 2, 1) := by decide +kernel
theorem d_T_mayBy_47 : decode y_T_mayBy.2.1 47 = .ok (.aload_n 0, 1) := by decide +kernel
theorem d_T_mayBy_48 : decode y_T_mayBy.2.1 48 = .ok (.getfield 11, 3) := by decide +kernel
theorem d_T_mayBy_51 : decode y_T_mayBy.2.1 51 = .ok (.iload 5, 2) := by decide +kernel
theorem d_T_mayBy_53 : decode y_T_mayBy.2.1 53 = .ok (.aaload, 1) := by decide +kernel
theorem d_T_mayBy_54 : decode y_T_mayBy.2.1 54 = .ok (.getfield 35, 3) := by decide +kernel
theorem d_T_mayBy_57 : decode y_T_mayBy.2.1 57 = .ok (.iload_n 1, 1) := by decide +kernel
theorem d_T_mayBy_58 : decode y_T_mayBy.2.1 58 = .ok (.invokevirtual 48, 3) := by decide +kernel
theorem d_T_mayBy_61 : decode y_T_mayBy.2.1 61 = .ok (.ifCond .eq 12, 3) := by decide +kernel
theorem d_T_mayBy_64 : decode y_T_mayBy.2.1 64 = .ok (.iload 4, 2) := by decide +kernel
theorem d_T_mayBy_66 : decode y_T_mayBy.2.1 66 = .ok (.iconst 1, 1) := by decide +kernel
theorem d_T_mayBy_67 : decode y_T_mayBy.2.1 67 = .ok (.iload 5, 2) := by decide +kernel
theorem d_T_mayBy_69 : decode y_T_mayBy.2.1 69 = .ok (.ishl, 1) := by decide +kernel
theorem d_T_mayBy_70 : decode y_T_mayBy.2.1 70 = .ok (.ior, 1) := by decide +kernel
theorem d_T_mayBy_71 : decode y_T_mayBy.2.1 71 = .ok (.istore 4, 2) := by decide +kernel
theorem d_T_mayBy_73 : decode y_T_mayBy.2.1 73 = .ok (.iinc 5 1, 3) := by decide +kernel
theorem d_T_mayBy_76 : decode y_T_mayBy.2.1 76 = .ok (.goto (-49), 3) := by decide +kernel
theorem d_T_mayBy_79 : decode y_T_mayBy.2.1 79 = .ok (.aload_n 0, 1) := by decide +kernel
theorem d_T_mayBy_80 : decode y_T_mayBy.2.1 80 = .ok (.getfield 21, 3) := by decide +kernel
theorem d_T_mayBy_83 : decode y_T_mayBy.2.1 83 = .ok (.iload_n 3, 1) := by decide +kernel
theorem d_T_mayBy_84 : decode y_T_mayBy.2.1 84 = .ok (.iload 4, 2) := by decide +kernel
theorem d_T_mayBy_86 : decode y_T_mayBy.2.1 86 = .ok (.iastore, 1) := by decide +kernel
theorem d_T_mayBy_87 : decode y_T_mayBy.2.1 87 = .ok (.aload_n 0, 1) := by decide +kernel
theorem d_T_mayBy_88 : decode y_T_mayBy.2.1 88 = .ok (.getfield 24, 3) := by decide +kernel
theorem d_T_mayBy_91 : decode y_T_mayBy.2.1 91 = .ok (.iload_n 3, 1) := by decide +kernel
theorem d_T_mayBy_92 : decode y_T_mayBy.2.1 92 = .ok (.aload_n 0, 1) := by decide +kernel
theorem d_T_mayBy_93 : decode y_T_mayBy.2.1 93 = .ok (.getfield 27, 3) := by decide +kernel
theorem d_T_mayBy_96 : decode y_T_mayBy.2.1 96 = .ok (.iastore, 1) := by decide +kernel
theorem d_T_mayBy_97 : decode y_T_mayBy.2.1 97 = .ok (.aload_n 0, 1) := by decide +kernel
theorem d_T_mayBy_98 : decode y_T_mayBy.2.1 98 = .ok (.getfield 21, 3) := by decide +kernel
theorem d_T_mayBy_101 : decode y_T_mayBy.2.1 101 = .ok (.iload_n 3, 1) := by decide +kernel
theorem d_T_mayBy_102 : decode y_T_mayBy.2.1 102 = .ok (.iaload, 1) := by decide +kernel
theorem d_T_mayBy_103 : decode y_T_mayBy.2.1 103 = .ok (.ireturn, 1) := by decide +kernel
theorem d_T_settled_0 : decode y_T_settled.2.1 0 = .ok (.lload_n 1, 1) := by decide +kernel
theorem d_T_settled_1 : decode y_T_settled.2.1 1 = .ok (.iload_n 3, 1) := by decide +kernel
theorem d_T_settled_2 : decode y_T_settled.2.1 2 = .ok (.invokestatic 54, 3) := by decide +kernel
theorem d_T_settled_5 : decode y_T_settled.2.1 5 = .ok (.istore 4, 2) := by decide +kernel
theorem d_T_settled_7 : decode y_T_settled.2.1 7 = .ok (.iload 4, 2) := by decide +kernel
theorem d_T_settled_9 : decode y_T_settled.2.1 9 = .ok (.aload_n 0, 1) := by decide +kernel
theorem d_T_settled_10 : decode y_T_settled.2.1 10 = .ok (.iload_n 3, 1) := by decide +kernel
theorem d_T_settled_11 : decode y_T_settled.2.1 11 = .ok (.iload 4, 2) := by decide +kernel
theorem d_T_settled_13 : decode y_T_settled.2.1 13 = .ok (.invokevirtual 58, 3) := by decide +kernel
theorem d_T_settled_16 : decode y_T_settled.2.1 16 = .ok (.iand, 1) := by decide +kernel
theorem d_T_settled_17 : decode y_T_settled.2.1 17 = .ok (.istore 5, 2) := by decide +kernel
theorem d_T_settled_19 : decode y_T_settled.2.1 19 = .ok (.iconst 0, 1) := by decide +kernel
theorem d_T_settled_20 : decode y_T_settled.2.1 20 = .ok (.istore 6, 2) := by decide +kernel
theorem d_T_settled_22 : decode y_T_settled.2.1 22 = .ok (.iload 5, 2) := by decide +kernel
theorem d_T_settled_24 : decode y_T_settled.2.1 24 = .ok (.iload 4, 2) := by decide +kernel
theorem d_T_settled_26 : decode y_T_settled.2.1 26 = .ok (.if_icmp .eq 32, 3) := by decide +kernel
theorem d_T_settled_29 : decode y_T_settled.2.1 29 = .ok (.iload 6, 2) := by decide +kernel
theorem d_T_settled_31 : decode y_T_settled.2.1 31 = .ok (.bipush 12, 2) := by decide +kernel
theorem d_T_settled_33 : decode y_T_settled.2.1 33 = .ok (.if_icmp .ge 25, 3) := by decide +kernel
theorem d_T_settled_36 : decode y_T_settled.2.1 36 = .ok (.iload 5, 2) := by decide +kernel
theorem d_T_settled_38 : decode y_T_settled.2.1 38 = .ok (.istore 4, 2) := by decide +kernel
theorem d_T_settled_40 : decode y_T_settled.2.1 40 = .ok (.iload 4, 2) := by decide +kernel
theorem d_T_settled_42 : decode y_T_settled.2.1 42 = .ok (.aload_n 0, 1) := by decide +kernel
theorem d_T_settled_43 : decode y_T_settled.2.1 43 = .ok (.iload_n 3, 1) := by decide +kernel
theorem d_T_settled_44 : decode y_T_settled.2.1 44 = .ok (.iload 4, 2) := by decide +kernel
theorem d_T_settled_46 : decode y_T_settled.2.1 46 = .ok (.invokevirtual 58, 3) := by decide +kernel
theorem d_T_settled_49 : decode y_T_settled.2.1 49 = .ok (.iand, 1) := by decide +kernel
theorem d_T_settled_50 : decode y_T_settled.2.1 50 = .ok (.istore 5, 2) := by decide +kernel
theorem d_T_settled_52 : decode y_T_settled.2.1 52 = .ok (.iinc 6 1, 3) := by decide +kernel
theorem d_T_settled_55 : decode y_T_settled.2.1 55 = .ok (.goto (-33), 3) := by decide +kernel
theorem d_T_settled_58 : decode y_T_settled.2.1 58 = .ok (.lload_n 1, 1) := by decide +kernel
theorem d_T_settled_59 : decode y_T_settled.2.1 59 = .ok (.iload_n 3, 1) := by decide +kernel
theorem d_T_settled_60 : decode y_T_settled.2.1 60 = .ok (.iload 4, 2) := by decide +kernel
theorem d_T_settled_62 : decode y_T_settled.2.1 62 = .ok (.invokestatic 62, 3) := by decide +kernel
theorem d_T_settled_65 : decode y_T_settled.2.1 65 = .ok (.lreturn, 1) := by decide +kernel
theorem d_T_possible_0 : decode y_T_possible.2.1 0 = .ok (.lload_n 1, 1) := by decide +kernel
theorem d_T_possible_1 : decode y_T_possible.2.1 1 = .ok (.invokestatic 66, 3) := by decide +kernel
theorem d_T_possible_4 : decode y_T_possible.2.1 4 = .ok (.istore 5, 2) := by decide +kernel
theorem d_T_possible_6 : decode y_T_possible.2.1 6 = .ok (.iload 4, 2) := by decide +kernel
theorem d_T_possible_8 : decode y_T_possible.2.1 8 = .ok (.iconst 3, 1) := by decide +kernel
theorem d_T_possible_9 : decode y_T_possible.2.1 9 = .ok (.if_icmp .ne 6, 3) := by decide +kernel
theorem d_T_possible_12 : decode y_T_possible.2.1 12 = .ok (.iload 5, 2) := by decide +kernel
theorem d_T_possible_14 : decode y_T_possible.2.1 14 = .ok (.ireturn, 1) := by decide +kernel
theorem d_T_possible_15 : decode y_T_possible.2.1 15 = .ok (.iload 4, 2) := by decide +kernel
theorem d_T_possible_17 : decode y_T_possible.2.1 17 = .ok (.iconst 3, 1) := by decide +kernel
theorem d_T_possible_18 : decode y_T_possible.2.1 18 = .ok (.if_icmp .ge 8, 3) := by decide +kernel
theorem d_T_possible_21 : decode y_T_possible.2.1 21 = .ok (.iload 4, 2) := by decide +kernel
theorem d_T_possible_23 : decode y_T_possible.2.1 23 = .ok (.goto 7, 3) := by decide +kernel
theorem d_T_possible_26 : decode y_T_possible.2.1 26 = .ok (.iload 4, 2) := by decide +kernel
theorem d_T_possible_28 : decode y_T_possible.2.1 28 = .ok (.iconst 4, 1) := by decide +kernel
theorem d_T_possible_29 : decode y_T_possible.2.1 29 = .ok (.isub, 1) := by decide +kernel
theorem d_T_possible_30 : decode y_T_possible.2.1 30 = .ok (.istore 6, 2) := by decide +kernel
theorem d_T_possible_32 : decode y_T_possible.2.1 32 = .ok (.lload_n 1, 1) := by decide +kernel
theorem d_T_possible_33 : decode y_T_possible.2.1 33 = .ok (.iload 6, 2) := by decide +kernel
theorem d_T_possible_35 : decode y_T_possible.2.1 35 = .ok (.invokestatic 54, 3) := by decide +kernel
theorem d_T_possible_38 : decode y_T_possible.2.1 38 = .ok (.istore 7, 2) := by decide +kernel
theorem d_T_possible_40 : decode y_T_possible.2.1 40 = .ok (.iload 7, 2) := by decide +kernel
theorem d_T_possible_42 : decode y_T_possible.2.1 42 = .ok (.invokestatic 70, 3) := by decide +kernel
theorem d_T_possible_45 : decode y_T_possible.2.1 45 = .ok (.aload_n 0, 1) := by decide +kernel
theorem d_T_possible_46 : decode y_T_possible.2.1 46 = .ok (.getfield 17, 3) := by decide +kernel
theorem d_T_possible_49 : decode y_T_possible.2.1 49 = .ok (.iload 6, 2) := by decide +kernel
theorem d_T_possible_51 : decode y_T_possible.2.1 51 = .ok (.iaload, 1) := by decide +kernel
theorem d_T_possible_52 : decode y_T_possible.2.1 52 = .ok (.if_icmp .lt 5, 3) := by decide +kernel
theorem d_T_possible_55 : decode y_T_possible.2.1 55 = .ok (.iconst 0, 1) := by decide +kernel
theorem d_T_possible_56 : decode y_T_possible.2.1 56 = .ok (.ireturn, 1) := by decide +kernel
theorem d_T_possible_57 : decode y_T_possible.2.1 57 = .ok (.iload 4, 2) := by decide +kernel
theorem d_T_possible_59 : decode y_T_possible.2.1 59 = .ok (.iconst 3, 1) := by decide +kernel
theorem d_T_possible_60 : decode y_T_possible.2.1 60 = .ok (.if_icmp .ge 14, 3) := by decide +kernel
theorem d_T_possible_63 : decode y_T_possible.2.1 63 = .ok (.iload 5, 2) := by decide +kernel
theorem d_T_possible_65 : decode y_T_possible.2.1 65 = .ok (.iconst (-1), 1) := by decide +kernel
theorem d_T_possible_66 : decode y_T_possible.2.1 66 = .ok (.ixor, 1) := by decide +kernel
theorem d_T_possible_67 : decode y_T_possible.2.1 67 = .ok (.iload_n 3, 1) := by decide +kernel
theorem d_T_possible_68 : decode y_T_possible.2.1 68 = .ok (.iconst (-1), 1) := by decide +kernel
theorem d_T_possible_69 : decode y_T_possible.2.1 69 = .ok (.ixor, 1) := by decide +kernel
theorem d_T_possible_70 : decode y_T_possible.2.1 70 = .ok (.iand, 1) := by decide +kernel
theorem d_T_possible_71 : decode y_T_possible.2.1 71 = .ok (.goto 10, 3) := by decide +kernel
theorem d_T_possible_74 : decode y_T_possible.2.1 74 = .ok (.iload 5, 2) := by decide +kernel
theorem d_T_possible_76 : decode y_T_possible.2.1 76 = .ok (.iload 7, 2) := by decide +kernel
theorem d_T_possible_78 : decode y_T_possible.2.1 78 = .ok (.iconst (-1), 1) := by decide +kernel
theorem d_T_possible_79 : decode y_T_possible.2.1 79 = .ok (.ixor, 1) := by decide +kernel
theorem d_T_possible_80 : decode y_T_possible.2.1 80 = .ok (.iand, 1) := by decide +kernel
theorem d_T_possible_81 : decode y_T_possible.2.1 81 = .ok (.istore 8, 2) := by decide +kernel
theorem d_T_possible_83 : decode y_T_possible.2.1 83 = .ok (.iload 8, 2) := by decide +kernel
theorem d_T_possible_85 : decode y_T_possible.2.1 85 = .ok (.ifCond .ne 7, 3) := by decide +kernel
theorem d_T_possible_88 : decode y_T_possible.2.1 88 = .ok (.iconst 0, 1) := by decide +kernel
theorem d_T_possible_89 : decode y_T_possible.2.1 89 = .ok (.goto 14, 3) := by decide +kernel
theorem d_T_possible_92 : decode y_T_possible.2.1 92 = .ok (.iload 8, 2) := by decide +kernel
theorem d_T_possible_94 : decode y_T_possible.2.1 94 = .ok (.aload_n 0, 1) := by decide +kernel
theorem d_T_possible_95 : decode y_T_possible.2.1 95 = .ok (.iload 6, 2) := by decide +kernel
theorem d_T_possible_97 : decode y_T_possible.2.1 97 = .ok (.iload 7, 2) := by decide +kernel
theorem d_T_possible_99 : decode y_T_possible.2.1 99 = .ok (.invokevirtual 58, 3) := by decide +kernel
theorem d_T_possible_102 : decode y_T_possible.2.1 102 = .ok (.iand, 1) := by decide +kernel
theorem d_T_possible_103 : decode y_T_possible.2.1 103 = .ok (.ireturn, 1) := by decide +kernel
theorem d_T_refusal_0 : decode y_T_refusal.2.1 0 = .ok (.iload 4, 2) := by decide +kernel
theorem d_T_refusal_2 : decode y_T_refusal.2.1 2 = .ok (.ifCond .lt 23, 3) := by decide +kernel
theorem d_T_refusal_5 : decode y_T_refusal.2.1 5 = .ok (.iload 4, 2) := by decide +kernel
theorem d_T_refusal_7 : decode y_T_refusal.2.1 7 = .ok (.sipush 140, 3) := by decide +kernel
theorem d_T_refusal_10 : decode y_T_refusal.2.1 10 = .ok (.if_icmp .ge 15, 3) := by decide +kernel
theorem d_T_refusal_13 : decode y_T_refusal.2.1 13 = .ok (.aload_n 0, 1) := by decide +kernel
theorem d_T_refusal_14 : decode y_T_refusal.2.1 14 = .ok (.iload 4, 2) := by decide +kernel
theorem d_T_refusal_16 : decode y_T_refusal.2.1 16 = .ok (.bipush 20, 2) := by decide +kernel
theorem d_T_refusal_18 : decode y_T_refusal.2.1 18 = .ok (.irem, 1) := by decide +kernel
theorem d_T_refusal_19 : decode y_T_refusal.2.1 19 = .ok (.invokevirtual 76, 3) := by decide +kernel
theorem d_T_refusal_22 : decode y_T_refusal.2.1 22 = .ok (.ifCond .ne 5, 3) := by decide +kernel
theorem d_T_refusal_25 : decode y_T_refusal.2.1 25 = .ok (.iconst (-1), 1) := by decide +kernel
theorem d_T_refusal_26 : decode y_T_refusal.2.1 26 = .ok (.ireturn, 1) := by decide +kernel
theorem d_T_refusal_27 : decode y_T_refusal.2.1 27 = .ok (.iload 4, 2) := by decide +kernel
theorem d_T_refusal_29 : decode y_T_refusal.2.1 29 = .ok (.bipush 20, 2) := by decide +kernel
theorem d_T_refusal_31 : decode y_T_refusal.2.1 31 = .ok (.idiv, 1) := by decide +kernel
theorem d_T_refusal_32 : decode y_T_refusal.2.1 32 = .ok (.istore 5, 2) := by decide +kernel
theorem d_T_refusal_34 : decode y_T_refusal.2.1 34 = .ok (.iload 4, 2) := by decide +kernel
theorem d_T_refusal_36 : decode y_T_refusal.2.1 36 = .ok (.bipush 20, 2) := by decide +kernel
theorem d_T_refusal_38 : decode y_T_refusal.2.1 38 = .ok (.irem, 1) := by decide +kernel
theorem d_T_refusal_39 : decode y_T_refusal.2.1 39 = .ok (.istore 6, 2) := by decide +kernel
theorem d_T_refusal_41 : decode y_T_refusal.2.1 41 = .ok (.lload_n 1, 1) := by decide +kernel
theorem d_T_refusal_42 : decode y_T_refusal.2.1 42 = .ok (.iload 6, 2) := by decide +kernel
theorem d_T_refusal_44 : decode y_T_refusal.2.1 44 = .ok (.invokestatic 80, 3) := by decide +kernel
theorem d_T_refusal_47 : decode y_T_refusal.2.1 47 = .ok (.istore 7, 2) := by decide +kernel
theorem d_T_refusal_49 : decode y_T_refusal.2.1 49 = .ok (.iload 5, 2) := by decide +kernel
theorem d_T_refusal_51 : decode y_T_refusal.2.1 51 = .ok (.iconst 3, 1) := by decide +kernel
theorem d_T_refusal_52 : decode y_T_refusal.2.1 52 = .ok (.if_icmp .ne 16, 3) := by decide +kernel
theorem d_T_refusal_55 : decode y_T_refusal.2.1 55 = .ok (.iload 7, 2) := by decide +kernel
theorem d_T_refusal_57 : decode y_T_refusal.2.1 57 = .ok (.iconst (-1), 1) := by decide +kernel
theorem d_T_refusal_58 : decode y_T_refusal.2.1 58 = .ok (.if_icmp .ne 8, 3) := by decide +kernel
theorem d_T_refusal_61 : decode y_T_refusal.2.1 61 = .ok (.bipush (-2), 2) := by decide +kernel
theorem d_T_refusal_63 : decode y_T_refusal.2.1 63 = .ok (.goto 4, 3) := by decide +kernel
theorem d_T_refusal_66 : decode y_T_refusal.2.1 66 = .ok (.iconst 0, 1) := by decide +kernel
theorem d_T_refusal_67 : decode y_T_refusal.2.1 67 = .ok (.ireturn, 1) := by decide +kernel
theorem d_T_refusal_68 : decode y_T_refusal.2.1 68 = .ok (.iload 5, 2) := by decide +kernel
theorem d_T_refusal_70 : decode y_T_refusal.2.1 70 = .ok (.iconst 3, 1) := by decide +kernel
theorem d_T_refusal_71 : decode y_T_refusal.2.1 71 = .ok (.if_icmp .ge 8, 3) := by decide +kernel
theorem d_T_refusal_74 : decode y_T_refusal.2.1 74 = .ok (.iload 5, 2) := by decide +kernel
theorem d_T_refusal_76 : decode y_T_refusal.2.1 76 = .ok (.goto 7, 3) := by decide +kernel
theorem d_T_refusal_79 : decode y_T_refusal.2.1 79 = .ok (.iload 5, 2) := by decide +kernel
theorem d_T_refusal_81 : decode y_T_refusal.2.1 81 = .ok (.iconst 4, 1) := by decide +kernel
theorem d_T_refusal_82 : decode y_T_refusal.2.1 82 = .ok (.isub, 1) := by decide +kernel
theorem d_T_refusal_83 : decode y_T_refusal.2.1 83 = .ok (.istore 8, 2) := by decide +kernel
theorem d_T_refusal_85 : decode y_T_refusal.2.1 85 = .ok (.iload 5, 2) := by decide +kernel
theorem d_T_refusal_87 : decode y_T_refusal.2.1 87 = .ok (.iconst 3, 1) := by decide +kernel
theorem d_T_refusal_88 : decode y_T_refusal.2.1 88 = .ok (.if_icmp .ge 12, 3) := by decide +kernel
theorem d_T_refusal_91 : decode y_T_refusal.2.1 91 = .ok (.iload 7, 2) := by decide +kernel
theorem d_T_refusal_93 : decode y_T_refusal.2.1 93 = .ok (.iconst (-1), 1) := by decide +kernel
theorem d_T_refusal_94 : decode y_T_refusal.2.1 94 = .ok (.if_icmp .eq 22, 3) := by decide +kernel
theorem d_T_refusal_97 : decode y_T_refusal.2.1 97 = .ok (.goto 16, 3) := by decide +kernel
theorem d_T_refusal_100 : decode y_T_refusal.2.1 100 = .ok (.iload 7, 2) := by decide +kernel
theorem d_T_refusal_102 : decode y_T_refusal.2.1 102 = .ok (.iconst (-1), 1) := by decide +kernel
theorem d_T_refusal_103 : decode y_T_refusal.2.1 103 = .ok (.if_icmp .eq 10, 3) := by decide +kernel
theorem d_T_refusal_106 : decode y_T_refusal.2.1 106 = .ok (.iload 7, 2) := by decide +kernel
theorem d_T_refusal_108 : decode y_T_refusal.2.1 108 = .ok (.iload 8, 2) := by decide +kernel
theorem d_T_refusal_110 : decode y_T_refusal.2.1 110 = .ok (.if_icmp .ne 6, 3) := by decide +kernel
theorem d_T_refusal_113 : decode y_T_refusal.2.1 113 = .ok (.bipush (-2), 2) := by decide +kernel
theorem d_T_refusal_115 : decode y_T_refusal.2.1 115 = .ok (.ireturn, 1) := by decide +kernel
theorem d_T_refusal_116 : decode y_T_refusal.2.1 116 = .ok (.iload 5, 2) := by decide +kernel
theorem d_T_refusal_118 : decode y_T_refusal.2.1 118 = .ok (.iconst 3, 1) := by decide +kernel
theorem d_T_refusal_119 : decode y_T_refusal.2.1 119 = .ok (.if_icmp .ge 15, 3) := by decide +kernel
theorem d_T_refusal_122 : decode y_T_refusal.2.1 122 = .ok (.iload_n 3, 1) := by decide +kernel
theorem d_T_refusal_123 : decode y_T_refusal.2.1 123 = .ok (.iload 6, 2) := by decide +kernel
theorem d_T_refusal_125 : decode y_T_refusal.2.1 125 = .ok (.ishr, 1) := by decide +kernel
theorem d_T_refusal_126 : decode y_T_refusal.2.1 126 = .ok (.iconst 1, 1) := by decide +kernel
theorem d_T_refusal_127 : decode y_T_refusal.2.1 127 = .ok (.iand, 1) := by decide +kernel
theorem d_T_refusal_128 : decode y_T_refusal.2.1 128 = .ok (.ifCond .eq 6, 3) := by decide +kernel
theorem d_T_refusal_131 : decode y_T_refusal.2.1 131 = .ok (.bipush (-3), 2) := by decide +kernel
theorem d_T_refusal_133 : decode y_T_refusal.2.1 133 = .ok (.ireturn, 1) := by decide +kernel
theorem d_T_refusal_134 : decode y_T_refusal.2.1 134 = .ok (.lload_n 1, 1) := by decide +kernel
theorem d_T_refusal_135 : decode y_T_refusal.2.1 135 = .ok (.iload 8, 2) := by decide +kernel
theorem d_T_refusal_137 : decode y_T_refusal.2.1 137 = .ok (.invokestatic 54, 3) := by decide +kernel
theorem d_T_refusal_140 : decode y_T_refusal.2.1 140 = .ok (.invokestatic 70, 3) := by decide +kernel
theorem d_T_refusal_143 : decode y_T_refusal.2.1 143 = .ok (.aload_n 0, 1) := by decide +kernel
theorem d_T_refusal_144 : decode y_T_refusal.2.1 144 = .ok (.getfield 17, 3) := by decide +kernel
theorem d_T_refusal_147 : decode y_T_refusal.2.1 147 = .ok (.iload 8, 2) := by decide +kernel
theorem d_T_refusal_149 : decode y_T_refusal.2.1 149 = .ok (.iaload, 1) := by decide +kernel
theorem d_T_refusal_150 : decode y_T_refusal.2.1 150 = .ok (.if_icmp .lt 6, 3) := by decide +kernel
theorem d_T_refusal_153 : decode y_T_refusal.2.1 153 = .ok (.bipush (-4), 2) := by decide +kernel
theorem d_T_refusal_155 : decode y_T_refusal.2.1 155 = .ok (.ireturn, 1) := by decide +kernel
theorem d_T_refusal_156 : decode y_T_refusal.2.1 156 = .ok (.aload_n 0, 1) := by decide +kernel
theorem d_T_refusal_157 : decode y_T_refusal.2.1 157 = .ok (.iload 8, 2) := by decide +kernel
theorem d_T_refusal_159 : decode y_T_refusal.2.1 159 = .ok (.lload_n 1, 1) := by decide +kernel
theorem d_T_refusal_160 : decode y_T_refusal.2.1 160 = .ok (.iload 8, 2) := by decide +kernel
theorem d_T_refusal_162 : decode y_T_refusal.2.1 162 = .ok (.invokestatic 54, 3) := by decide +kernel
theorem d_T_refusal_165 : decode y_T_refusal.2.1 165 = .ok (.invokevirtual 58, 3) := by decide +kernel
theorem d_T_refusal_168 : decode y_T_refusal.2.1 168 = .ok (.iload 6, 2) := by decide +kernel
theorem d_T_refusal_170 : decode y_T_refusal.2.1 170 = .ok (.ishr, 1) := by decide +kernel
theorem d_T_refusal_171 : decode y_T_refusal.2.1 171 = .ok (.iconst 1, 1) := by decide +kernel
theorem d_T_refusal_172 : decode y_T_refusal.2.1 172 = .ok (.iand, 1) := by decide +kernel
theorem d_T_refusal_173 : decode y_T_refusal.2.1 173 = .ok (.ifCond .ne 8, 3) := by decide +kernel
theorem d_T_refusal_176 : decode y_T_refusal.2.1 176 = .ok (.bipush (-5), 2) := by decide +kernel
theorem d_T_refusal_178 : decode y_T_refusal.2.1 178 = .ok (.goto 4, 3) := by decide +kernel
theorem d_T_refusal_181 : decode y_T_refusal.2.1 181 = .ok (.iconst 0, 1) := by decide +kernel
theorem d_T_refusal_182 : decode y_T_refusal.2.1 182 = .ok (.ireturn, 1) := by decide +kernel
theorem d_T_after_0 : decode y_T_after.2.1 0 = .ok (.iload_n 3, 1) := by decide +kernel
theorem d_T_after_1 : decode y_T_after.2.1 1 = .ok (.bipush 20, 2) := by decide +kernel
theorem d_T_after_3 : decode y_T_after.2.1 3 = .ok (.idiv, 1) := by decide +kernel
theorem d_T_after_4 : decode y_T_after.2.1 4 = .ok (.istore 4, 2) := by decide +kernel
theorem d_T_after_6 : decode y_T_after.2.1 6 = .ok (.iconst 1, 1) := by decide +kernel
theorem d_T_after_7 : decode y_T_after.2.1 7 = .ok (.iload_n 3, 1) := by decide +kernel
theorem d_T_after_8 : decode y_T_after.2.1 8 = .ok (.bipush 20, 2) := by decide +kernel
theorem d_T_after_10 : decode y_T_after.2.1 10 = .ok (.irem, 1) := by decide +kernel
theorem d_T_after_11 : decode y_T_after.2.1 11 = .ok (.ishl, 1) := by decide +kernel
theorem d_T_after_12 : decode y_T_after.2.1 12 = .ok (.istore 5, 2) := by decide +kernel
theorem d_T_after_14 : decode y_T_after.2.1 14 = .ok (.lload_n 1, 1) := by decide +kernel
theorem d_T_after_15 : decode y_T_after.2.1 15 = .ok (.iload_n 3, 1) := by decide +kernel
theorem d_T_after_16 : decode y_T_after.2.1 16 = .ok (.bipush 20, 2) := by decide +kernel
theorem d_T_after_18 : decode y_T_after.2.1 18 = .ok (.irem, 1) := by decide +kernel
theorem d_T_after_19 : decode y_T_after.2.1 19 = .ok (.invokestatic 80, 3) := by decide +kernel
theorem d_T_after_22 : decode y_T_after.2.1 22 = .ok (.istore 6, 2) := by decide +kernel
theorem d_T_after_24 : decode y_T_after.2.1 24 = .ok (.lload_n 1, 1) := by decide +kernel
theorem d_T_after_25 : decode y_T_after.2.1 25 = .ok (.lstore 7, 2) := by decide +kernel
theorem d_T_after_27 : decode y_T_after.2.1 27 = .ok (.iload 6, 2) := by decide +kernel
theorem d_T_after_29 : decode y_T_after.2.1 29 = .ok (.iconst (-1), 1) := by decide +kernel
theorem d_T_after_30 : decode y_T_after.2.1 30 = .ok (.if_icmp .eq 30, 3) := by decide +kernel
theorem d_T_after_33 : decode y_T_after.2.1 33 = .ok (.aload_n 0, 1) := by decide +kernel
theorem d_T_after_34 : decode y_T_after.2.1 34 = .ok (.lload 7, 2) := by decide +kernel
theorem d_T_after_36 : decode y_T_after.2.1 36 = .ok (.iload 6, 2) := by decide +kernel
theorem d_T_after_38 : decode y_T_after.2.1 38 = .ok (.lload 7, 2) := by decide +kernel
theorem d_T_after_40 : decode y_T_after.2.1 40 = .ok (.iload 6, 2) := by decide +kernel
theorem d_T_after_42 : decode y_T_after.2.1 42 = .ok (.invokestatic 54, 3) := by decide +kernel
theorem d_T_after_45 : decode y_T_after.2.1 45 = .ok (.iload 5, 2) := by decide +kernel
theorem d_T_after_47 : decode y_T_after.2.1 47 = .ok (.iconst (-1), 1) := by decide +kernel
theorem d_T_after_48 : decode y_T_after.2.1 48 = .ok (.ixor, 1) := by decide +kernel
theorem d_T_after_49 : decode y_T_after.2.1 49 = .ok (.iand, 1) := by decide +kernel
theorem d_T_after_50 : decode y_T_after.2.1 50 = .ok (.invokestatic 62, 3) := by decide +kernel
theorem d_T_after_53 : decode y_T_after.2.1 53 = .ok (.iload 6, 2) := by decide +kernel
theorem d_T_after_55 : decode y_T_after.2.1 55 = .ok (.invokevirtual 83, 3) := by decide +kernel
theorem d_T_after_58 : decode y_T_after.2.1 58 = .ok (.lstore 7, 2) := by decide +kernel
theorem d_T_after_60 : decode y_T_after.2.1 60 = .ok (.iload 4, 2) := by decide +kernel
theorem d_T_after_62 : decode y_T_after.2.1 62 = .ok (.iconst 3, 1) := by decide +kernel
theorem d_T_after_63 : decode y_T_after.2.1 63 = .ok (.if_icmp .eq 45, 3) := by decide +kernel
theorem d_T_after_66 : decode y_T_after.2.1 66 = .ok (.iload 4, 2) := by decide +kernel
theorem d_T_after_68 : decode y_T_after.2.1 68 = .ok (.iconst 3, 1) := by decide +kernel
theorem d_T_after_69 : decode y_T_after.2.1 69 = .ok (.if_icmp .ge 8, 3) := by decide +kernel
theorem d_T_after_72 : decode y_T_after.2.1 72 = .ok (.iload 4, 2) := by decide +kernel
theorem d_T_after_74 : decode y_T_after.2.1 74 = .ok (.goto 7, 3) := by decide +kernel
theorem d_T_after_77 : decode y_T_after.2.1 77 = .ok (.iload 4, 2) := by decide +kernel
theorem d_T_after_79 : decode y_T_after.2.1 79 = .ok (.iconst 4, 1) := by decide +kernel
theorem d_T_after_80 : decode y_T_after.2.1 80 = .ok (.isub, 1) := by decide +kernel
theorem d_T_after_81 : decode y_T_after.2.1 81 = .ok (.istore 9, 2) := by decide +kernel
theorem d_T_after_83 : decode y_T_after.2.1 83 = .ok (.aload_n 0, 1) := by decide +kernel
theorem d_T_after_84 : decode y_T_after.2.1 84 = .ok (.lload 7, 2) := by decide +kernel
theorem d_T_after_86 : decode y_T_after.2.1 86 = .ok (.iload 9, 2) := by decide +kernel
theorem d_T_after_88 : decode y_T_after.2.1 88 = .ok (.lload 7, 2) := by decide +kernel
theorem d_T_after_90 : decode y_T_after.2.1 90 = .ok (.iload 9, 2) := by decide +kernel
theorem d_T_after_92 : decode y_T_after.2.1 92 = .ok (.invokestatic 54, 3) := by decide +kernel
theorem d_T_after_95 : decode y_T_after.2.1 95 = .ok (.iload 5, 2) := by decide +kernel
theorem d_T_after_97 : decode y_T_after.2.1 97 = .ok (.ior, 1) := by decide +kernel
theorem d_T_after_98 : decode y_T_after.2.1 98 = .ok (.invokestatic 62, 3) := by decide +kernel
theorem d_T_after_101 : decode y_T_after.2.1 101 = .ok (.iload 9, 2) := by decide +kernel
theorem d_T_after_103 : decode y_T_after.2.1 103 = .ok (.invokevirtual 83, 3) := by decide +kernel
theorem d_T_after_106 : decode y_T_after.2.1 106 = .ok (.lstore 7, 2) := by decide +kernel
theorem d_T_after_108 : decode y_T_after.2.1 108 = .ok (.lload 7, 2) := by decide +kernel
theorem d_T_after_110 : decode y_T_after.2.1 110 = .ok (.lreturn, 1) := by decide +kernel
theorem d_P_init_0 : decode y_P_init.2.1 0 = .ok (.aload_n 0, 1) := by decide +kernel
theorem d_P_init_1 : decode y_P_init.2.1 1 = .ok (.invokespecial 3, 3) := by decide +kernel
theorem d_P_init_4 : decode y_P_init.2.1 4 = .ok (.aload_n 0, 1) := by decide +kernel
theorem d_P_init_5 : decode y_P_init.2.1 5 = .ok (.new 9, 3) := by decide +kernel
theorem d_P_init_8 : decode y_P_init.2.1 8 = .ok (.dup, 1) := by decide +kernel
theorem d_P_init_9 : decode y_P_init.2.1 9 = .ok (.invokespecial 11, 3) := by decide +kernel
theorem d_P_init_12 : decode y_P_init.2.1 12 = .ok (.putfield 12, 3) := by decide +kernel
theorem d_P_init_15 : decode y_P_init.2.1 15 = .ok (.aload_n 0, 1) := by decide +kernel
theorem d_P_init_16 : decode y_P_init.2.1 16 = .ok (.new 9, 3) := by decide +kernel
theorem d_P_init_19 : decode y_P_init.2.1 19 = .ok (.dup, 1) := by decide +kernel
theorem d_P_init_20 : decode y_P_init.2.1 20 = .ok (.invokespecial 11, 3) := by decide +kernel
theorem d_P_init_23 : decode y_P_init.2.1 23 = .ok (.putfield 18, 3) := by decide +kernel
theorem d_P_init_26 : decode y_P_init.2.1 26 = .ok (.aload_n 0, 1) := by decide +kernel
theorem d_P_init_27 : decode y_P_init.2.1 27 = .ok (.bipush 80, 2) := by decide +kernel
theorem d_P_init_29 : decode y_P_init.2.1 29 = .ok (.newarray .int, 2) := by decide +kernel
theorem d_P_init_31 : decode y_P_init.2.1 31 = .ok (.putfield 21, 3) := by decide +kernel
theorem d_P_init_34 : decode y_P_init.2.1 34 = .ok (.aload_n 0, 1) := by decide +kernel
theorem d_P_init_35 : decode y_P_init.2.1 35 = .ok (.aload_n 0, 1) := by decide +kernel
theorem d_P_init_36 : decode y_P_init.2.1 36 = .ok (.getfield 12, 3) := by decide +kernel
theorem d_P_init_39 : decode y_P_init.2.1 39 = .ok (.putfield 25, 3) := by decide +kernel
theorem d_P_init_42 : decode y_P_init.2.1 42 = .ok (.return_, 1) := by decide +kernel
theorem d_P_append_0 : decode y_P_append.2.1 0 = .ok (.aload_n 0, 1) := by decide +kernel
theorem d_P_append_1 : decode y_P_append.2.1 1 = .ok (.getfield 28, 3) := by decide +kernel
theorem d_P_append_4 : decode y_P_append.2.1 4 = .ok (.iconst 4, 1) := by decide +kernel
theorem d_P_append_5 : decode y_P_append.2.1 5 = .ok (.iadd, 1) := by decide +kernel
theorem d_P_append_6 : decode y_P_append.2.1 6 = .ok (.bipush 80, 2) := by decide +kernel
theorem d_P_append_8 : decode y_P_append.2.1 8 = .ok (.if_icmp .le 5, 3) := by decide +kernel
theorem d_P_append_11 : decode y_P_append.2.1 11 = .ok (.iconst (-1), 1) := by decide +kernel
theorem d_P_append_12 : decode y_P_append.2.1 12 = .ok (.ireturn, 1) := by decide +kernel
theorem d_P_append_13 : decode y_P_append.2.1 13 = .ok (.bipush 24, 2) := by decide +kernel
theorem d_P_append_15 : decode y_P_append.2.1 15 = .ok (.istore_n 2, 1) := by decide +kernel
theorem d_P_append_16 : decode y_P_append.2.1 16 = .ok (.iload_n 2, 1) := by decide +kernel
theorem d_P_append_17 : decode y_P_append.2.1 17 = .ok (.ifCond .lt 35, 3) := by decide +kernel
theorem d_P_append_20 : decode y_P_append.2.1 20 = .ok (.aload_n 0, 1) := by decide +kernel
theorem d_P_append_21 : decode y_P_append.2.1 21 = .ok (.getfield 21, 3) := by decide +kernel
theorem d_P_append_24 : decode y_P_append.2.1 24 = .ok (.aload_n 0, 1) := by decide +kernel
theorem d_P_append_25 : decode y_P_append.2.1 25 = .ok (.getfield 28, 3) := by decide +kernel
theorem d_P_append_28 : decode y_P_append.2.1 28 = .ok (.iload_n 1, 1) := by decide +kernel
theorem d_P_append_29 : decode y_P_append.2.1 29 = .ok (.iload_n 2, 1) := by decide +kernel
theorem d_P_append_30 : decode y_P_append.2.1 30 = .ok (.iushr, 1) := by decide +kernel
theorem d_P_append_31 : decode y_P_append.2.1 31 = .ok (.sipush 255, 3) := by decide +kernel
theorem d_P_append_34 : decode y_P_append.2.1 34 = .ok (.iand, 1) := by decide +kernel
theorem d_P_append_35 : decode y_P_append.2.1 35 = .ok (.iastore, 1) := by decide +kernel
theorem d_P_append_36 : decode y_P_append.2.1 36 = .ok (.aload_n 0, 1) := by decide +kernel
theorem d_P_append_37 : decode y_P_append.2.1 37 = .ok (.dup, 1) := by decide +kernel
theorem d_P_append_38 : decode y_P_append.2.1 38 = .ok (.getfield 28, 3) := by decide +kernel
theorem d_P_append_41 : decode y_P_append.2.1 41 = .ok (.iconst 1, 1) := by decide +kernel
theorem d_P_append_42 : decode y_P_append.2.1 42 = .ok (.iadd, 1) := by decide +kernel
theorem d_P_append_43 : decode y_P_append.2.1 43 = .ok (.putfield 28, 3) := by decide +kernel
theorem d_P_append_46 : decode y_P_append.2.1 46 = .ok (.iinc 2 (-8), 3) := by decide +kernel
theorem d_P_append_49 : decode y_P_append.2.1 49 = .ok (.goto (-33), 3) := by decide +kernel
theorem d_P_append_52 : decode y_P_append.2.1 52 = .ok (.aload_n 0, 1) := by decide +kernel
theorem d_P_append_53 : decode y_P_append.2.1 53 = .ok (.getfield 28, 3) := by decide +kernel
theorem d_P_append_56 : decode y_P_append.2.1 56 = .ok (.ireturn, 1) := by decide +kernel
theorem d_P_cut_0 : decode y_P_cut.2.1 0 = .ok (.iload_n 1, 1) := by decide +kernel
theorem d_P_cut_1 : decode y_P_cut.2.1 1 = .ok (.ifCond .lt 11, 3) := by decide +kernel
theorem d_P_cut_4 : decode y_P_cut.2.1 4 = .ok (.iload_n 1, 1) := by decide +kernel
theorem d_P_cut_5 : decode y_P_cut.2.1 5 = .ok (.aload_n 0, 1) := by decide +kernel
theorem d_P_cut_6 : decode y_P_cut.2.1 6 = .ok (.getfield 28, 3) := by decide +kernel
theorem d_P_cut_9 : decode y_P_cut.2.1 9 = .ok (.if_icmp .le 5, 3) := by decide +kernel
theorem d_P_cut_12 : decode y_P_cut.2.1 12 = .ok (.iconst 0, 1) := by decide +kernel
theorem d_P_cut_13 : decode y_P_cut.2.1 13 = .ok (.ireturn, 1) := by decide +kernel
theorem d_P_cut_14 : decode y_P_cut.2.1 14 = .ok (.aload_n 0, 1) := by decide +kernel
theorem d_P_cut_15 : decode y_P_cut.2.1 15 = .ok (.iload_n 1, 1) := by decide +kernel
theorem d_P_cut_16 : decode y_P_cut.2.1 16 = .ok (.putfield 28, 3) := by decide +kernel
theorem d_P_cut_19 : decode y_P_cut.2.1 19 = .ok (.iconst 1, 1) := by decide +kernel
theorem d_P_cut_20 : decode y_P_cut.2.1 20 = .ok (.ireturn, 1) := by decide +kernel
theorem d_P_clear_0 : decode y_P_clear.2.1 0 = .ok (.aload_n 0, 1) := by decide +kernel
theorem d_P_clear_1 : decode y_P_clear.2.1 1 = .ok (.iconst 0, 1) := by decide +kernel
theorem d_P_clear_2 : decode y_P_clear.2.1 2 = .ok (.putfield 28, 3) := by decide +kernel
theorem d_P_clear_5 : decode y_P_clear.2.1 5 = .ok (.return_, 1) := by decide +kernel
theorem d_P_parse_0 : decode y_P_parse.2.1 0 = .ok (.aload_n 0, 1) := by decide +kernel
theorem d_P_parse_1 : decode y_P_parse.2.1 1 = .ok (.aload_n 0, 1) := by decide +kernel
theorem d_P_parse_2 : decode y_P_parse.2.1 2 = .ok (.getfield 28, 3) := by decide +kernel
theorem d_P_parse_5 : decode y_P_parse.2.1 5 = .ok (.iload_n 1, 1) := by decide +kernel
theorem d_P_parse_6 : decode y_P_parse.2.1 6 = .ok (.invokestatic 32, 3) := by decide +kernel
theorem d_P_parse_9 : decode y_P_parse.2.1 9 = .ok (.putfield 38, 3) := by decide +kernel
theorem d_P_parse_12 : decode y_P_parse.2.1 12 = .ok (.aload_n 0, 1) := by decide +kernel
theorem d_P_parse_13 : decode y_P_parse.2.1 13 = .ok (.iconst 0, 1) := by decide +kernel
theorem d_P_parse_14 : decode y_P_parse.2.1 14 = .ok (.putfield 41, 3) := by decide +kernel
theorem d_P_parse_17 : decode y_P_parse.2.1 17 = .ok (.aload_n 0, 1) := by decide +kernel
theorem d_P_parse_18 : decode y_P_parse.2.1 18 = .ok (.iconst 0, 1) := by decide +kernel
theorem d_P_parse_19 : decode y_P_parse.2.1 19 = .ok (.putfield 44, 3) := by decide +kernel
theorem d_P_parse_22 : decode y_P_parse.2.1 22 = .ok (.aload_n 0, 1) := by decide +kernel
theorem d_P_parse_23 : decode y_P_parse.2.1 23 = .ok (.getfield 18, 3) := by decide +kernel
theorem d_P_parse_26 : decode y_P_parse.2.1 26 = .ok (.invokevirtual 47, 3) := by decide +kernel
theorem d_P_parse_29 : decode y_P_parse.2.1 29 = .ok (.aload_n 0, 1) := by decide +kernel
theorem d_P_parse_30 : decode y_P_parse.2.1 30 = .ok (.aload_n 0, 1) := by decide +kernel
theorem d_P_parse_31 : decode y_P_parse.2.1 31 = .ok (.getfield 12, 3) := by decide +kernel
theorem d_P_parse_34 : decode y_P_parse.2.1 34 = .ok (.invokevirtual 50, 3) := by decide +kernel
theorem d_P_parse_37 : decode y_P_parse.2.1 37 = .ok (.ifCond .eq 48, 3) := by decide +kernel
theorem d_P_parse_40 : decode y_P_parse.2.1 40 = .ok (.aload_n 0, 1) := by decide +kernel
theorem d_P_parse_41 : decode y_P_parse.2.1 41 = .ok (.getfield 41, 3) := by decide +kernel
theorem d_P_parse_44 : decode y_P_parse.2.1 44 = .ok (.aload_n 0, 1) := by decide +kernel
theorem d_P_parse_45 : decode y_P_parse.2.1 45 = .ok (.getfield 38, 3) := by decide +kernel
theorem d_P_parse_48 : decode y_P_parse.2.1 48 = .ok (.if_icmp .eq 14, 3) := by decide +kernel
theorem d_P_parse_51 : decode y_P_parse.2.1 51 = .ok (.iload_n 2, 1) := by decide +kernel
theorem d_P_parse_52 : decode y_P_parse.2.1 52 = .ok (.ifCond .eq 33, 3) := by decide +kernel
theorem d_P_parse_55 : decode y_P_parse.2.1 55 = .ok (.aload_n 0, 1) := by decide +kernel
theorem d_P_parse_56 : decode y_P_parse.2.1 56 = .ok (.invokevirtual 54, 3) := by decide +kernel
theorem d_P_parse_59 : decode y_P_parse.2.1 59 = .ok (.ifCond .eq 26, 3) := by decide +kernel
theorem d_P_parse_62 : decode y_P_parse.2.1 62 = .ok (.aload_n 0, 1) := by decide +kernel
theorem d_P_parse_63 : decode y_P_parse.2.1 63 = .ok (.getfield 41, 3) := by decide +kernel
theorem d_P_parse_66 : decode y_P_parse.2.1 66 = .ok (.aload_n 0, 1) := by decide +kernel
theorem d_P_parse_67 : decode y_P_parse.2.1 67 = .ok (.getfield 38, 3) := by decide +kernel
theorem d_P_parse_70 : decode y_P_parse.2.1 70 = .ok (.if_icmp .ne 15, 3) := by decide +kernel
theorem d_P_parse_73 : decode y_P_parse.2.1 73 = .ok (.aload_n 0, 1) := by decide +kernel
theorem d_P_parse_74 : decode y_P_parse.2.1 74 = .ok (.getfield 28, 3) := by decide +kernel
theorem d_P_parse_77 : decode y_P_parse.2.1 77 = .ok (.iload_n 1, 1) := by decide +kernel
theorem d_P_parse_78 : decode y_P_parse.2.1 78 = .ok (.if_icmp .gt 7, 3) := by decide +kernel
theorem d_P_parse_81 : decode y_P_parse.2.1 81 = .ok (.iconst 1, 1) := by decide +kernel
theorem d_P_parse_82 : decode y_P_parse.2.1 82 = .ok (.goto 4, 3) := by decide +kernel
theorem d_P_parse_85 : decode y_P_parse.2.1 85 = .ok (.iconst 0, 1) := by decide +kernel
theorem d_P_parse_86 : decode y_P_parse.2.1 86 = .ok (.istore_n 3, 1) := by decide +kernel
theorem d_P_parse_87 : decode y_P_parse.2.1 87 = .ok (.aload_n 0, 1) := by decide +kernel
theorem d_P_parse_88 : decode y_P_parse.2.1 88 = .ok (.iconst 0, 1) := by decide +kernel
theorem d_P_parse_89 : decode y_P_parse.2.1 89 = .ok (.putfield 28, 3) := by decide +kernel
theorem d_P_parse_92 : decode y_P_parse.2.1 92 = .ok (.iload_n 3, 1) := by decide +kernel
theorem d_P_parse_93 : decode y_P_parse.2.1 93 = .ok (.ifCond .eq 7, 3) := by decide +kernel
theorem d_P_parse_96 : decode y_P_parse.2.1 96 = .ok (.iconst (-1), 1) := by decide +kernel
theorem d_P_parse_97 : decode y_P_parse.2.1 97 = .ok (.goto 7, 3) := by decide +kernel
theorem d_P_parse_100 : decode y_P_parse.2.1 100 = .ok (.aload_n 0, 1) := by decide +kernel
theorem d_P_parse_101 : decode y_P_parse.2.1 101 = .ok (.getfield 41, 3) := by decide +kernel
theorem d_P_parse_104 : decode y_P_parse.2.1 104 = .ok (.ireturn, 1) := by decide +kernel
theorem d_P_later_0 : decode y_P_later.2.1 0 = .ok (.aload_n 0, 1) := by decide +kernel
theorem d_P_later_1 : decode y_P_later.2.1 1 = .ok (.bipush 59, 2) := by decide +kernel
theorem d_P_later_3 : decode y_P_later.2.1 3 = .ok (.invokevirtual 58, 3) := by decide +kernel
theorem d_P_later_6 : decode y_P_later.2.1 6 = .ok (.ifCond .eq 42, 3) := by decide +kernel
theorem d_P_later_9 : decode y_P_later.2.1 9 = .ok (.aload_n 0, 1) := by decide +kernel
theorem d_P_later_10 : decode y_P_later.2.1 10 = .ok (.getfield 41, 3) := by decide +kernel
theorem d_P_later_13 : decode y_P_later.2.1 13 = .ok (.aload_n 0, 1) := by decide +kernel
theorem d_P_later_14 : decode y_P_later.2.1 14 = .ok (.getfield 38, 3) := by decide +kernel
theorem d_P_later_17 : decode y_P_later.2.1 17 = .ok (.if_icmp .ge 31, 3) := by decide +kernel
theorem d_P_later_20 : decode y_P_later.2.1 20 = .ok (.aload_n 0, 1) := by decide +kernel
theorem d_P_later_21 : decode y_P_later.2.1 21 = .ok (.getfield 21, 3) := by decide +kernel
theorem d_P_later_24 : decode y_P_later.2.1 24 = .ok (.aload_n 0, 1) := by decide +kernel
theorem d_P_later_25 : decode y_P_later.2.1 25 = .ok (.getfield 41, 3) := by decide +kernel
theorem d_P_later_28 : decode y_P_later.2.1 28 = .ok (.iaload, 1) := by decide +kernel
theorem d_P_later_29 : decode y_P_later.2.1 29 = .ok (.bipush 49, 2) := by decide +kernel
theorem d_P_later_31 : decode y_P_later.2.1 31 = .ok (.if_icmp .lt 17, 3) := by decide +kernel
theorem d_P_later_34 : decode y_P_later.2.1 34 = .ok (.aload_n 0, 1) := by decide +kernel
theorem d_P_later_35 : decode y_P_later.2.1 35 = .ok (.getfield 21, 3) := by decide +kernel
theorem d_P_later_38 : decode y_P_later.2.1 38 = .ok (.aload_n 0, 1) := by decide +kernel
theorem d_P_later_39 : decode y_P_later.2.1 39 = .ok (.getfield 41, 3) := by decide +kernel
theorem d_P_later_42 : decode y_P_later.2.1 42 = .ok (.iaload, 1) := by decide +kernel
theorem d_P_later_43 : decode y_P_later.2.1 43 = .ok (.bipush 54, 2) := by decide +kernel
theorem d_P_later_45 : decode y_P_later.2.1 45 = .ok (.if_icmp .le 5, 3) := by decide +kernel
theorem d_P_later_48 : decode y_P_later.2.1 48 = .ok (.iconst 0, 1) := by decide +kernel
theorem d_P_later_49 : decode y_P_later.2.1 49 = .ok (.ireturn, 1) := by decide +kernel
theorem d_P_later_50 : decode y_P_later.2.1 50 = .ok (.aload_n 0, 1) := by decide +kernel
theorem d_P_later_51 : decode y_P_later.2.1 51 = .ok (.aload_n 0, 1) := by decide +kernel
theorem d_P_later_52 : decode y_P_later.2.1 52 = .ok (.getfield 21, 3) := by decide +kernel
theorem d_P_later_55 : decode y_P_later.2.1 55 = .ok (.aload_n 0, 1) := by decide +kernel
theorem d_P_later_56 : decode y_P_later.2.1 56 = .ok (.getfield 41, 3) := by decide +kernel
theorem d_P_later_59 : decode y_P_later.2.1 59 = .ok (.iaload, 1) := by decide +kernel
theorem d_P_later_60 : decode y_P_later.2.1 60 = .ok (.bipush 48, 2) := by decide +kernel
theorem d_P_later_62 : decode y_P_later.2.1 62 = .ok (.isub, 1) := by decide +kernel
theorem d_P_later_63 : decode y_P_later.2.1 63 = .ok (.putfield 44, 3) := by decide +kernel
theorem d_P_later_66 : decode y_P_later.2.1 66 = .ok (.aload_n 0, 1) := by decide +kernel
theorem d_P_later_67 : decode y_P_later.2.1 67 = .ok (.dup, 1) := by decide +kernel
theorem d_P_later_68 : decode y_P_later.2.1 68 = .ok (.getfield 41, 3) := by decide +kernel
theorem d_P_later_71 : decode y_P_later.2.1 71 = .ok (.iconst 1, 1) := by decide +kernel
theorem d_P_later_72 : decode y_P_later.2.1 72 = .ok (.iadd, 1) := by decide +kernel
theorem d_P_later_73 : decode y_P_later.2.1 73 = .ok (.putfield 41, 3) := by decide +kernel
theorem d_P_later_76 : decode y_P_later.2.1 76 = .ok (.aload_n 0, 1) := by decide +kernel
theorem d_P_later_77 : decode y_P_later.2.1 77 = .ok (.bipush 59, 2) := by decide +kernel
theorem d_P_later_79 : decode y_P_later.2.1 79 = .ok (.invokevirtual 58, 3) := by decide +kernel
theorem d_P_later_82 : decode y_P_later.2.1 82 = .ok (.ifCond .eq 18, 3) := by decide +kernel
theorem d_P_later_85 : decode y_P_later.2.1 85 = .ok (.aload_n 0, 1) := by decide +kernel
theorem d_P_later_86 : decode y_P_later.2.1 86 = .ok (.aload_n 0, 1) := by decide +kernel
theorem d_P_later_87 : decode y_P_later.2.1 87 = .ok (.getfield 18, 3) := by decide +kernel
theorem d_P_later_90 : decode y_P_later.2.1 90 = .ok (.invokevirtual 50, 3) := by decide +kernel
theorem d_P_later_93 : decode y_P_later.2.1 93 = .ok (.ifCond .eq 7, 3) := by decide +kernel
theorem d_P_later_96 : decode y_P_later.2.1 96 = .ok (.iconst 1, 1) := by decide +kernel
theorem d_P_later_97 : decode y_P_later.2.1 97 = .ok (.goto 4, 3) := by decide +kernel
theorem d_P_later_100 : decode y_P_later.2.1 100 = .ok (.iconst 0, 1) := by decide +kernel
theorem d_P_later_101 : decode y_P_later.2.1 101 = .ok (.ireturn, 1) := by decide +kernel
theorem d_P_whole_0 : decode y_P_whole.2.1 0 = .ok (.aload_n 0, 1) := by decide +kernel
theorem d_P_whole_1 : decode y_P_whole.2.1 1 = .ok (.aload_n 1, 1) := by decide +kernel
theorem d_P_whole_2 : decode y_P_whole.2.1 2 = .ok (.putfield 25, 3) := by decide +kernel
theorem d_P_whole_5 : decode y_P_whole.2.1 5 = .ok (.aload_n 0, 1) := by decide +kernel
theorem d_P_whole_6 : decode y_P_whole.2.1 6 = .ok (.getfield 25, 3) := by decide +kernel
theorem d_P_whole_9 : decode y_P_whole.2.1 9 = .ok (.invokevirtual 47, 3) := by decide +kernel
theorem d_P_whole_12 : decode y_P_whole.2.1 12 = .ok (.aload_n 0, 1) := by decide +kernel
theorem d_P_whole_13 : decode y_P_whole.2.1 13 = .ok (.iconst 0, 1) := by decide +kernel
theorem d_P_whole_14 : decode y_P_whole.2.1 14 = .ok (.invokevirtual 62, 3) := by decide +kernel
theorem d_P_whole_17 : decode y_P_whole.2.1 17 = .ok (.ireturn, 1) := by decide +kernel
theorem d_P_takes_0 : decode y_P_takes.2.1 0 = .ok (.aload_n 0, 1) := by decide +kernel
theorem d_P_takes_1 : decode y_P_takes.2.1 1 = .ok (.getfield 41, 3) := by decide +kernel
theorem d_P_takes_4 : decode y_P_takes.2.1 4 = .ok (.aload_n 0, 1) := by decide +kernel
theorem d_P_takes_5 : decode y_P_takes.2.1 5 = .ok (.getfield 38, 3) := by decide +kernel
theorem d_P_takes_8 : decode y_P_takes.2.1 8 = .ok (.if_icmp .ge 28, 3) := by decide +kernel
theorem d_P_takes_11 : decode y_P_takes.2.1 11 = .ok (.aload_n 0, 1) := by decide +kernel
theorem d_P_takes_12 : decode y_P_takes.2.1 12 = .ok (.getfield 21, 3) := by decide +kernel
theorem d_P_takes_15 : decode y_P_takes.2.1 15 = .ok (.aload_n 0, 1) := by decide +kernel
theorem d_P_takes_16 : decode y_P_takes.2.1 16 = .ok (.getfield 41, 3) := by decide +kernel
theorem d_P_takes_19 : decode y_P_takes.2.1 19 = .ok (.iaload, 1) := by decide +kernel
theorem d_P_takes_20 : decode y_P_takes.2.1 20 = .ok (.iload_n 1, 1) := by decide +kernel
theorem d_P_takes_21 : decode y_P_takes.2.1 21 = .ok (.if_icmp .ne 15, 3) := by decide +kernel
theorem d_P_takes_24 : decode y_P_takes.2.1 24 = .ok (.aload_n 0, 1) := by decide +kernel
theorem d_P_takes_25 : decode y_P_takes.2.1 25 = .ok (.dup, 1) := by decide +kernel
theorem d_P_takes_26 : decode y_P_takes.2.1 26 = .ok (.getfield 41, 3) := by decide +kernel
theorem d_P_takes_29 : decode y_P_takes.2.1 29 = .ok (.iconst 1, 1) := by decide +kernel
theorem d_P_takes_30 : decode y_P_takes.2.1 30 = .ok (.iadd, 1) := by decide +kernel
theorem d_P_takes_31 : decode y_P_takes.2.1 31 = .ok (.putfield 41, 3) := by decide +kernel
theorem d_P_takes_34 : decode y_P_takes.2.1 34 = .ok (.iconst 1, 1) := by decide +kernel
theorem d_P_takes_35 : decode y_P_takes.2.1 35 = .ok (.ireturn, 1) := by decide +kernel
theorem d_P_takes_36 : decode y_P_takes.2.1 36 = .ok (.iconst 0, 1) := by decide +kernel
theorem d_P_takes_37 : decode y_P_takes.2.1 37 = .ok (.ireturn, 1) := by decide +kernel
theorem d_P_anyOf_0 : decode y_P_anyOf.2.1 0 = .ok (.aload_n 0, 1) := by decide +kernel
theorem d_P_anyOf_1 : decode y_P_anyOf.2.1 1 = .ok (.iload_n 1, 1) := by decide +kernel
theorem d_P_anyOf_2 : decode y_P_anyOf.2.1 2 = .ok (.invokevirtual 65, 3) := by decide +kernel
theorem d_P_anyOf_5 : decode y_P_anyOf.2.1 5 = .ok (.ifCond .ne 5, 3) := by decide +kernel
theorem d_P_anyOf_8 : decode y_P_anyOf.2.1 8 = .ok (.iconst 0, 1) := by decide +kernel
theorem d_P_anyOf_9 : decode y_P_anyOf.2.1 9 = .ok (.ireturn, 1) := by decide +kernel
theorem d_P_anyOf_10 : decode y_P_anyOf.2.1 10 = .ok (.aload_n 0, 1) := by decide +kernel
theorem d_P_anyOf_11 : decode y_P_anyOf.2.1 11 = .ok (.getfield 41, 3) := by decide +kernel
theorem d_P_anyOf_14 : decode y_P_anyOf.2.1 14 = .ok (.aload_n 0, 1) := by decide +kernel
theorem d_P_anyOf_15 : decode y_P_anyOf.2.1 15 = .ok (.getfield 38, 3) := by decide +kernel
theorem d_P_anyOf_18 : decode y_P_anyOf.2.1 18 = .ok (.if_icmp .ge 50, 3) := by decide +kernel
theorem d_P_anyOf_21 : decode y_P_anyOf.2.1 21 = .ok (.aload_n 0, 1) := by decide +kernel
theorem d_P_anyOf_22 : decode y_P_anyOf.2.1 22 = .ok (.getfield 21, 3) := by decide +kernel
theorem d_P_anyOf_25 : decode y_P_anyOf.2.1 25 = .ok (.aload_n 0, 1) := by decide +kernel
theorem d_P_anyOf_26 : decode y_P_anyOf.2.1 26 = .ok (.getfield 41, 3) := by decide +kernel
theorem d_P_anyOf_29 : decode y_P_anyOf.2.1 29 = .ok (.iaload, 1) := by decide +kernel
theorem d_P_anyOf_30 : decode y_P_anyOf.2.1 30 = .ok (.bipush 124, 2) := by decide +kernel
theorem d_P_anyOf_32 : decode y_P_anyOf.2.1 32 = .ok (.if_icmp .ne 36, 3) := by decide +kernel
theorem d_P_anyOf_35 : decode y_P_anyOf.2.1 35 = .ok (.aload_n 0, 1) := by decide +kernel
theorem d_P_anyOf_36 : decode y_P_anyOf.2.1 36 = .ok (.dup, 1) := by decide +kernel
theorem d_P_anyOf_37 : decode y_P_anyOf.2.1 37 = .ok (.getfield 41, 3) := by decide +kernel
theorem d_P_anyOf_40 : decode y_P_anyOf.2.1 40 = .ok (.iconst 1, 1) := by decide +kernel
theorem d_P_anyOf_41 : decode y_P_anyOf.2.1 41 = .ok (.iadd, 1) := by decide +kernel
theorem d_P_anyOf_42 : decode y_P_anyOf.2.1 42 = .ok (.putfield 41, 3) := by decide +kernel
theorem d_P_anyOf_45 : decode y_P_anyOf.2.1 45 = .ok (.aload_n 0, 1) := by decide +kernel
theorem d_P_anyOf_46 : decode y_P_anyOf.2.1 46 = .ok (.iload_n 1, 1) := by decide +kernel
theorem d_P_anyOf_47 : decode y_P_anyOf.2.1 47 = .ok (.invokevirtual 65, 3) := by decide +kernel
theorem d_P_anyOf_50 : decode y_P_anyOf.2.1 50 = .ok (.ifCond .ne 5, 3) := by decide +kernel
theorem d_P_anyOf_53 : decode y_P_anyOf.2.1 53 = .ok (.iconst 0, 1) := by decide +kernel
theorem d_P_anyOf_54 : decode y_P_anyOf.2.1 54 = .ok (.ireturn, 1) := by decide +kernel
theorem d_P_anyOf_55 : decode y_P_anyOf.2.1 55 = .ok (.aload_n 0, 1) := by decide +kernel
theorem d_P_anyOf_56 : decode y_P_anyOf.2.1 56 = .ok (.getfield 25, 3) := by decide +kernel
theorem d_P_anyOf_59 : decode y_P_anyOf.2.1 59 = .ok (.sipush 131, 3) := by decide +kernel
theorem d_P_anyOf_62 : decode y_P_anyOf.2.1 62 = .ok (.invokevirtual 68, 3) := by decide +kernel
theorem d_P_anyOf_65 : decode y_P_anyOf.2.1 65 = .ok (.goto (-55), 3) := by decide +kernel
theorem d_P_anyOf_68 : decode y_P_anyOf.2.1 68 = .ok (.iconst 1, 1) := by decide +kernel
theorem d_P_anyOf_69 : decode y_P_anyOf.2.1 69 = .ok (.ireturn, 1) := by decide +kernel
theorem d_P_allOf_0 : decode y_P_allOf.2.1 0 = .ok (.aload_n 0, 1) := by decide +kernel
theorem d_P_allOf_1 : decode y_P_allOf.2.1 1 = .ok (.iload_n 1, 1) := by decide +kernel
theorem d_P_allOf_2 : decode y_P_allOf.2.1 2 = .ok (.invokevirtual 72, 3) := by decide +kernel
theorem d_P_allOf_5 : decode y_P_allOf.2.1 5 = .ok (.ifCond .ne 5, 3) := by decide +kernel
theorem d_P_allOf_8 : decode y_P_allOf.2.1 8 = .ok (.iconst 0, 1) := by decide +kernel
theorem d_P_allOf_9 : decode y_P_allOf.2.1 9 = .ok (.ireturn, 1) := by decide +kernel
theorem d_P_allOf_10 : decode y_P_allOf.2.1 10 = .ok (.aload_n 0, 1) := by decide +kernel
theorem d_P_allOf_11 : decode y_P_allOf.2.1 11 = .ok (.getfield 41, 3) := by decide +kernel
theorem d_P_allOf_14 : decode y_P_allOf.2.1 14 = .ok (.aload_n 0, 1) := by decide +kernel
theorem d_P_allOf_15 : decode y_P_allOf.2.1 15 = .ok (.getfield 38, 3) := by decide +kernel
theorem d_P_allOf_18 : decode y_P_allOf.2.1 18 = .ok (.if_icmp .ge 50, 3) := by decide +kernel
theorem d_P_allOf_21 : decode y_P_allOf.2.1 21 = .ok (.aload_n 0, 1) := by decide +kernel
theorem d_P_allOf_22 : decode y_P_allOf.2.1 22 = .ok (.getfield 21, 3) := by decide +kernel
theorem d_P_allOf_25 : decode y_P_allOf.2.1 25 = .ok (.aload_n 0, 1) := by decide +kernel
theorem d_P_allOf_26 : decode y_P_allOf.2.1 26 = .ok (.getfield 41, 3) := by decide +kernel
theorem d_P_allOf_29 : decode y_P_allOf.2.1 29 = .ok (.iaload, 1) := by decide +kernel
theorem d_P_allOf_30 : decode y_P_allOf.2.1 30 = .ok (.bipush 38, 2) := by decide +kernel
theorem d_P_allOf_32 : decode y_P_allOf.2.1 32 = .ok (.if_icmp .ne 36, 3) := by decide +kernel
theorem d_P_allOf_35 : decode y_P_allOf.2.1 35 = .ok (.aload_n 0, 1) := by decide +kernel
theorem d_P_allOf_36 : decode y_P_allOf.2.1 36 = .ok (.dup, 1) := by decide +kernel
theorem d_P_allOf_37 : decode y_P_allOf.2.1 37 = .ok (.getfield 41, 3) := by decide +kernel
theorem d_P_allOf_40 : decode y_P_allOf.2.1 40 = .ok (.iconst 1, 1) := by decide +kernel
theorem d_P_allOf_41 : decode y_P_allOf.2.1 41 = .ok (.iadd, 1) := by decide +kernel
theorem d_P_allOf_42 : decode y_P_allOf.2.1 42 = .ok (.putfield 41, 3) := by decide +kernel
theorem d_P_allOf_45 : decode y_P_allOf.2.1 45 = .ok (.aload_n 0, 1) := by decide +kernel
theorem d_P_allOf_46 : decode y_P_allOf.2.1 46 = .ok (.iload_n 1, 1) := by decide +kernel
theorem d_P_allOf_47 : decode y_P_allOf.2.1 47 = .ok (.invokevirtual 72, 3) := by decide +kernel
theorem d_P_allOf_50 : decode y_P_allOf.2.1 50 = .ok (.ifCond .ne 5, 3) := by decide +kernel
theorem d_P_allOf_53 : decode y_P_allOf.2.1 53 = .ok (.iconst 0, 1) := by decide +kernel
theorem d_P_allOf_54 : decode y_P_allOf.2.1 54 = .ok (.ireturn, 1) := by decide +kernel
theorem d_P_allOf_55 : decode y_P_allOf.2.1 55 = .ok (.aload_n 0, 1) := by decide +kernel
theorem d_P_allOf_56 : decode y_P_allOf.2.1 56 = .ok (.getfield 25, 3) := by decide +kernel
theorem d_P_allOf_59 : decode y_P_allOf.2.1 59 = .ok (.sipush 132, 3) := by decide +kernel
theorem d_P_allOf_62 : decode y_P_allOf.2.1 62 = .ok (.invokevirtual 68, 3) := by decide +kernel
theorem d_P_allOf_65 : decode y_P_allOf.2.1 65 = .ok (.goto (-55), 3) := by decide +kernel
theorem d_P_allOf_68 : decode y_P_allOf.2.1 68 = .ok (.iconst 1, 1) := by decide +kernel
theorem d_P_allOf_69 : decode y_P_allOf.2.1 69 = .ok (.ireturn, 1) := by decide +kernel
theorem d_P_compared_0 : decode y_P_compared.2.1 0 = .ok (.aload_n 0, 1) := by decide +kernel
theorem d_P_compared_1 : decode y_P_compared.2.1 1 = .ok (.iload_n 1, 1) := by decide +kernel
theorem d_P_compared_2 : decode y_P_compared.2.1 2 = .ok (.invokevirtual 75, 3) := by decide +kernel
theorem d_P_compared_5 : decode y_P_compared.2.1 5 = .ok (.ifCond .ne 5, 3) := by decide +kernel
theorem d_P_compared_8 : decode y_P_compared.2.1 8 = .ok (.iconst 0, 1) := by decide +kernel
theorem d_P_compared_9 : decode y_P_compared.2.1 9 = .ok (.ireturn, 1) := by decide +kernel
theorem d_P_compared_10 : decode y_P_compared.2.1 10 = .ok (.aload_n 0, 1) := by decide +kernel
theorem d_P_compared_11 : decode y_P_compared.2.1 11 = .ok (.bipush 60, 2) := by decide +kernel
theorem d_P_compared_13 : decode y_P_compared.2.1 13 = .ok (.invokevirtual 58, 3) := by decide +kernel
theorem d_P_compared_16 : decode y_P_compared.2.1 16 = .ok (.ifCond .eq 9, 3) := by decide +kernel
theorem d_P_compared_19 : decode y_P_compared.2.1 19 = .ok (.sipush 133, 3) := by decide +kernel
theorem d_P_compared_22 : decode y_P_compared.2.1 22 = .ok (.goto 34, 3) := by decide +kernel
theorem d_P_compared_25 : decode y_P_compared.2.1 25 = .ok (.aload_n 0, 1) := by decide +kernel
theorem d_P_compared_26 : decode y_P_compared.2.1 26 = .ok (.bipush 62, 2) := by decide +kernel
theorem d_P_compared_28 : decode y_P_compared.2.1 28 = .ok (.invokevirtual 58, 3) := by decide +kernel
theorem d_P_compared_31 : decode y_P_compared.2.1 31 = .ok (.ifCond .eq 9, 3) := by decide +kernel
theorem d_P_compared_34 : decode y_P_compared.2.1 34 = .ok (.sipush 134, 3) := by decide +kernel
theorem d_P_compared_37 : decode y_P_compared.2.1 37 = .ok (.goto 19, 3) := by decide +kernel
theorem d_P_compared_40 : decode y_P_compared.2.1 40 = .ok (.aload_n 0, 1) := by decide +kernel
theorem d_P_compared_41 : decode y_P_compared.2.1 41 = .ok (.bipush 61, 2) := by decide +kernel
theorem d_P_compared_43 : decode y_P_compared.2.1 43 = .ok (.invokevirtual 58, 3) := by decide +kernel
theorem d_P_compared_46 : decode y_P_compared.2.1 46 = .ok (.ifCond .eq 9, 3) := by decide +kernel
theorem d_P_compared_49 : decode y_P_compared.2.1 49 = .ok (.sipush 135, 3) := by decide +kernel
theorem d_P_compared_52 : decode y_P_compared.2.1 52 = .ok (.goto 4, 3) := by decide +kernel
theorem d_P_compared_55 : decode y_P_compared.2.1 55 = .ok (.iconst 0, 1) := by decide +kernel
theorem d_P_compared_56 : decode y_P_compared.2.1 56 = .ok (.istore_n 2, 1) := by decide +kernel
theorem d_P_compared_57 : decode y_P_compared.2.1 57 = .ok (.iload_n 2, 1) := by decide +kernel
theorem d_P_compared_58 : decode y_P_compared.2.1 58 = .ok (.ifCond .eq 21, 3) := by decide +kernel
theorem d_P_compared_61 : decode y_P_compared.2.1 61 = .ok (.aload_n 0, 1) := by decide +kernel
theorem d_P_compared_62 : decode y_P_compared.2.1 62 = .ok (.iload_n 1, 1) := by decide +kernel
theorem d_P_compared_63 : decode y_P_compared.2.1 63 = .ok (.invokevirtual 75, 3) := by decide +kernel
theorem d_P_compared_66 : decode y_P_compared.2.1 66 = .ok (.ifCond .ne 5, 3) := by decide +kernel
theorem d_P_compared_69 : decode y_P_compared.2.1 69 = .ok (.iconst 0, 1) := by decide +kernel
theorem d_P_compared_70 : decode y_P_compared.2.1 70 = .ok (.ireturn, 1) := by decide +kernel
theorem d_P_compared_71 : decode y_P_compared.2.1 71 = .ok (.aload_n 0, 1) := by decide +kernel
theorem d_P_compared_72 : decode y_P_compared.2.1 72 = .ok (.getfield 25, 3) := by decide +kernel
theorem d_P_compared_75 : decode y_P_compared.2.1 75 = .ok (.iload_n 2, 1) := by decide +kernel
theorem d_P_compared_76 : decode y_P_compared.2.1 76 = .ok (.invokevirtual 68, 3) := by decide +kernel
theorem d_P_compared_79 : decode y_P_compared.2.1 79 = .ok (.iconst 1, 1) := by decide +kernel
theorem d_P_compared_80 : decode y_P_compared.2.1 80 = .ok (.ireturn, 1) := by decide +kernel
theorem d_P_sum_0 : decode y_P_sum.2.1 0 = .ok (.aload_n 0, 1) := by decide +kernel
theorem d_P_sum_1 : decode y_P_sum.2.1 1 = .ok (.iload_n 1, 1) := by decide +kernel
theorem d_P_sum_2 : decode y_P_sum.2.1 2 = .ok (.invokevirtual 78, 3) := by decide +kernel
theorem d_P_sum_5 : decode y_P_sum.2.1 5 = .ok (.ifCond .ne 5, 3) := by decide +kernel
theorem d_P_sum_8 : decode y_P_sum.2.1 8 = .ok (.iconst 0, 1) := by decide +kernel
theorem d_P_sum_9 : decode y_P_sum.2.1 9 = .ok (.ireturn, 1) := by decide +kernel
theorem d_P_sum_10 : decode y_P_sum.2.1 10 = .ok (.aload_n 0, 1) := by decide +kernel
theorem d_P_sum_11 : decode y_P_sum.2.1 11 = .ok (.getfield 41, 3) := by decide +kernel
theorem d_P_sum_14 : decode y_P_sum.2.1 14 = .ok (.aload_n 0, 1) := by decide +kernel
theorem d_P_sum_15 : decode y_P_sum.2.1 15 = .ok (.getfield 38, 3) := by decide +kernel
theorem d_P_sum_18 : decode y_P_sum.2.1 18 = .ok (.if_icmp .ge 86, 3) := by decide +kernel
theorem d_P_sum_21 : decode y_P_sum.2.1 21 = .ok (.aload_n 0, 1) := by decide +kernel
theorem d_P_sum_22 : decode y_P_sum.2.1 22 = .ok (.getfield 21, 3) := by decide +kernel
theorem d_P_sum_25 : decode y_P_sum.2.1 25 = .ok (.aload_n 0, 1) := by decide +kernel
theorem d_P_sum_26 : decode y_P_sum.2.1 26 = .ok (.getfield 41, 3) := by decide +kernel
theorem d_P_sum_29 : decode y_P_sum.2.1 29 = .ok (.iaload, 1) := by decide +kernel
theorem d_P_sum_30 : decode y_P_sum.2.1 30 = .ok (.bipush 43, 2) := by decide +kernel
theorem d_P_sum_32 : decode y_P_sum.2.1 32 = .ok (.if_icmp .eq 17, 3) := by decide +kernel
theorem d_P_sum_35 : decode y_P_sum.2.1 35 = .ok (.aload_n 0, 1) := by decide +kernel
theorem d_P_sum_36 : decode y_P_sum.2.1 36 = .ok (.getfield 21, 3) := by decide +kernel
theorem d_P_sum_39 : decode y_P_sum.2.1 39 = .ok (.aload_n 0, 1) := by decide +kernel
theorem d_P_sum_40 : decode y_P_sum.2.1 40 = .ok (.getfield 41, 3) := by decide +kernel
theorem d_P_sum_43 : decode y_P_sum.2.1 43 = .ok (.iaload, 1) := by decide +kernel
theorem d_P_sum_44 : decode y_P_sum.2.1 44 = .ok (.bipush 45, 2) := by decide +kernel
theorem d_P_sum_46 : decode y_P_sum.2.1 46 = .ok (.if_icmp .ne 58, 3) := by decide +kernel
theorem d_P_sum_49 : decode y_P_sum.2.1 49 = .ok (.aload_n 0, 1) := by decide +kernel
theorem d_P_sum_50 : decode y_P_sum.2.1 50 = .ok (.getfield 21, 3) := by decide +kernel
theorem d_P_sum_53 : decode y_P_sum.2.1 53 = .ok (.aload_n 0, 1) := by decide +kernel
theorem d_P_sum_54 : decode y_P_sum.2.1 54 = .ok (.getfield 41, 3) := by decide +kernel
theorem d_P_sum_57 : decode y_P_sum.2.1 57 = .ok (.iaload, 1) := by decide +kernel
theorem d_P_sum_58 : decode y_P_sum.2.1 58 = .ok (.bipush 43, 2) := by decide +kernel
theorem d_P_sum_60 : decode y_P_sum.2.1 60 = .ok (.if_icmp .ne 9, 3) := by decide +kernel
theorem d_P_sum_63 : decode y_P_sum.2.1 63 = .ok (.sipush 136, 3) := by decide +kernel
theorem d_P_sum_66 : decode y_P_sum.2.1 66 = .ok (.goto 6, 3) := by decide +kernel
theorem d_P_sum_69 : decode y_P_sum.2.1 69 = .ok (.sipush 137, 3) := by decide +kernel
theorem d_P_sum_72 : decode y_P_sum.2.1 72 = .ok (.istore_n 2, 1) := by decide +kernel
theorem d_P_sum_73 : decode y_P_sum.2.1 73 = .ok (.aload_n 0, 1) := by decide +kernel
theorem d_P_sum_74 : decode y_P_sum.2.1 74 = .ok (.dup, 1) := by decide +kernel
theorem d_P_sum_75 : decode y_P_sum.2.1 75 = .ok (.getfield 41, 3) := by decide +kernel
theorem d_P_sum_78 : decode y_P_sum.2.1 78 = .ok (.iconst 1, 1) := by decide +kernel
theorem d_P_sum_79 : decode y_P_sum.2.1 79 = .ok (.iadd, 1) := by decide +kernel
theorem d_P_sum_80 : decode y_P_sum.2.1 80 = .ok (.putfield 41, 3) := by decide +kernel
theorem d_P_sum_83 : decode y_P_sum.2.1 83 = .ok (.aload_n 0, 1) := by decide +kernel
theorem d_P_sum_84 : decode y_P_sum.2.1 84 = .ok (.iload_n 1, 1) := by decide +kernel
theorem d_P_sum_85 : decode y_P_sum.2.1 85 = .ok (.invokevirtual 78, 3) := by decide +kernel
theorem d_P_sum_88 : decode y_P_sum.2.1 88 = .ok (.ifCond .ne 5, 3) := by decide +kernel
theorem d_P_sum_91 : decode y_P_sum.2.1 91 = .ok (.iconst 0, 1) := by decide +kernel
theorem d_P_sum_92 : decode y_P_sum.2.1 92 = .ok (.ireturn, 1) := by decide +kernel
theorem d_P_sum_93 : decode y_P_sum.2.1 93 = .ok (.aload_n 0, 1) := by decide +kernel
theorem d_P_sum_94 : decode y_P_sum.2.1 94 = .ok (.getfield 25, 3) := by decide +kernel
theorem d_P_sum_97 : decode y_P_sum.2.1 97 = .ok (.iload_n 2, 1) := by decide +kernel
theorem d_P_sum_98 : decode y_P_sum.2.1 98 = .ok (.invokevirtual 68, 3) := by decide +kernel
theorem d_P_sum_101 : decode y_P_sum.2.1 101 = .ok (.goto (-91), 3) := by decide +kernel
theorem d_P_sum_104 : decode y_P_sum.2.1 104 = .ok (.iconst 1, 1) := by decide +kernel
theorem d_P_sum_105 : decode y_P_sum.2.1 105 = .ok (.ireturn, 1) := by decide +kernel
theorem d_P_denied_0 : decode y_P_denied.2.1 0 = .ok (.iconst 0, 1) := by decide +kernel
theorem d_P_denied_1 : decode y_P_denied.2.1 1 = .ok (.istore_n 2, 1) := by decide +kernel
theorem d_P_denied_2 : decode y_P_denied.2.1 2 = .ok (.aload_n 0, 1) := by decide +kernel
theorem d_P_denied_3 : decode y_P_denied.2.1 3 = .ok (.getfield 41, 3) := by decide +kernel
theorem d_P_denied_6 : decode y_P_denied.2.1 6 = .ok (.aload_n 0, 1) := by decide +kernel
theorem d_P_denied_7 : decode y_P_denied.2.1 7 = .ok (.getfield 38, 3) := by decide +kernel
theorem d_P_denied_10 : decode y_P_denied.2.1 10 = .ok (.if_icmp .ge 33, 3) := by decide +kernel
theorem d_P_denied_13 : decode y_P_denied.2.1 13 = .ok (.aload_n 0, 1) := by decide +kernel
theorem d_P_denied_14 : decode y_P_denied.2.1 14 = .ok (.getfield 21, 3) := by decide +kernel
theorem d_P_denied_17 : decode y_P_denied.2.1 17 = .ok (.aload_n 0, 1) := by decide +kernel
theorem d_P_denied_18 : decode y_P_denied.2.1 18 = .ok (.getfield 41, 3) := by decide +kernel
theorem d_P_denied_21 : decode y_P_denied.2.1 21 = .ok (.iaload, 1) := by decide +kernel
theorem d_P_denied_22 : decode y_P_denied.2.1 22 = .ok (.bipush 33, 2) := by decide +kernel
theorem d_P_denied_24 : decode y_P_denied.2.1 24 = .ok (.if_icmp .ne 19, 3) := by decide +kernel
theorem d_P_denied_27 : decode y_P_denied.2.1 27 = .ok (.aload_n 0, 1) := by decide +kernel
theorem d_P_denied_28 : decode y_P_denied.2.1 28 = .ok (.dup, 1) := by decide +kernel
theorem d_P_denied_29 : decode y_P_denied.2.1 29 = .ok (.getfield 41, 3) := by decide +kernel
theorem d_P_denied_32 : decode y_P_denied.2.1 32 = .ok (.iconst 1, 1) := by decide +kernel
theorem d_P_denied_33 : decode y_P_denied.2.1 33 = .ok (.iadd, 1) := by decide +kernel
theorem d_P_denied_34 : decode y_P_denied.2.1 34 = .ok (.putfield 41, 3) := by decide +kernel
theorem d_P_denied_37 : decode y_P_denied.2.1 37 = .ok (.iinc 2 1, 3) := by decide +kernel
theorem d_P_denied_40 : decode y_P_denied.2.1 40 = .ok (.goto (-38), 3) := by decide +kernel
theorem d_P_denied_43 : decode y_P_denied.2.1 43 = .ok (.aload_n 0, 1) := by decide +kernel
theorem d_P_denied_44 : decode y_P_denied.2.1 44 = .ok (.iload_n 1, 1) := by decide +kernel
theorem d_P_denied_45 : decode y_P_denied.2.1 45 = .ok (.invokevirtual 81, 3) := by decide +kernel
theorem d_P_denied_48 : decode y_P_denied.2.1 48 = .ok (.ifCond .ne 5, 3) := by decide +kernel
theorem d_P_denied_51 : decode y_P_denied.2.1 51 = .ok (.iconst 0, 1) := by decide +kernel
theorem d_P_denied_52 : decode y_P_denied.2.1 52 = .ok (.ireturn, 1) := by decide +kernel
theorem d_P_denied_53 : decode y_P_denied.2.1 53 = .ok (.iconst 0, 1) := by decide +kernel
theorem d_P_denied_54 : decode y_P_denied.2.1 54 = .ok (.istore_n 3, 1) := by decide +kernel
theorem d_P_denied_55 : decode y_P_denied.2.1 55 = .ok (.iload_n 3, 1) := by decide +kernel
theorem d_P_denied_56 : decode y_P_denied.2.1 56 = .ok (.iload_n 2, 1) := by decide +kernel
theorem d_P_denied_57 : decode y_P_denied.2.1 57 = .ok (.if_icmp .ge 19, 3) := by decide +kernel
theorem d_P_denied_60 : decode y_P_denied.2.1 60 = .ok (.aload_n 0, 1) := by decide +kernel
theorem d_P_denied_61 : decode y_P_denied.2.1 61 = .ok (.getfield 25, 3) := by decide +kernel
theorem d_P_denied_64 : decode y_P_denied.2.1 64 = .ok (.sipush 130, 3) := by decide +kernel
theorem d_P_denied_67 : decode y_P_denied.2.1 67 = .ok (.invokevirtual 68, 3) := by decide +kernel
theorem d_P_denied_70 : decode y_P_denied.2.1 70 = .ok (.iinc 3 1, 3) := by decide +kernel
theorem d_P_denied_73 : decode y_P_denied.2.1 73 = .ok (.goto (-18), 3) := by decide +kernel
theorem d_P_denied_76 : decode y_P_denied.2.1 76 = .ok (.iconst 1, 1) := by decide +kernel
theorem d_P_denied_77 : decode y_P_denied.2.1 77 = .ok (.ireturn, 1) := by decide +kernel
theorem d_P_thing_0 : decode y_P_thing.2.1 0 = .ok (.aload_n 0, 1) := by decide +kernel
theorem d_P_thing_1 : decode y_P_thing.2.1 1 = .ok (.bipush 40, 2) := by decide +kernel
theorem d_P_thing_3 : decode y_P_thing.2.1 3 = .ok (.invokevirtual 58, 3) := by decide +kernel
theorem d_P_thing_6 : decode y_P_thing.2.1 6 = .ok (.ifCond .eq 45, 3) := by decide +kernel
theorem d_P_thing_9 : decode y_P_thing.2.1 9 = .ok (.iload_n 1, 1) := by decide +kernel
theorem d_P_thing_10 : decode y_P_thing.2.1 10 = .ok (.iconst 4, 1) := by decide +kernel
theorem d_P_thing_11 : decode y_P_thing.2.1 11 = .ok (.if_icmp .lt 15, 3) := by decide +kernel
theorem d_P_thing_14 : decode y_P_thing.2.1 14 = .ok (.aload_n 0, 1) := by decide +kernel
theorem d_P_thing_15 : decode y_P_thing.2.1 15 = .ok (.dup, 1) := by decide +kernel
theorem d_P_thing_16 : decode y_P_thing.2.1 16 = .ok (.getfield 41, 3) := by decide +kernel
theorem d_P_thing_19 : decode y_P_thing.2.1 19 = .ok (.iconst 1, 1) := by decide +kernel
theorem d_P_thing_20 : decode y_P_thing.2.1 20 = .ok (.isub, 1) := by decide +kernel
theorem d_P_thing_21 : decode y_P_thing.2.1 21 = .ok (.putfield 41, 3) := by decide +kernel
theorem d_P_thing_24 : decode y_P_thing.2.1 24 = .ok (.iconst 0, 1) := by decide +kernel
theorem d_P_thing_25 : decode y_P_thing.2.1 25 = .ok (.ireturn, 1) := by decide +kernel
theorem d_P_thing_26 : decode y_P_thing.2.1 26 = .ok (.aload_n 0, 1) := by decide +kernel
theorem d_P_thing_27 : decode y_P_thing.2.1 27 = .ok (.iload_n 1, 1) := by decide +kernel
theorem d_P_thing_28 : decode y_P_thing.2.1 28 = .ok (.iconst 1, 1) := by decide +kernel
theorem d_P_thing_29 : decode y_P_thing.2.1 29 = .ok (.iadd, 1) := by decide +kernel
theorem d_P_thing_30 : decode y_P_thing.2.1 30 = .ok (.invokevirtual 62, 3) := by decide +kernel
theorem d_P_thing_33 : decode y_P_thing.2.1 33 = .ok (.ifCond .eq 16, 3) := by decide +kernel
theorem d_P_thing_36 : decode y_P_thing.2.1 36 = .ok (.aload_n 0, 1) := by decide +kernel
theorem d_P_thing_37 : decode y_P_thing.2.1 37 = .ok (.bipush 41, 2) := by decide +kernel
theorem d_P_thing_39 : decode y_P_thing.2.1 39 = .ok (.invokevirtual 58, 3) := by decide +kernel
theorem d_P_thing_42 : decode y_P_thing.2.1 42 = .ok (.ifCond .eq 7, 3) := by decide +kernel
theorem d_P_thing_45 : decode y_P_thing.2.1 45 = .ok (.iconst 1, 1) := by decide +kernel
theorem d_P_thing_46 : decode y_P_thing.2.1 46 = .ok (.goto 4, 3) := by decide +kernel
theorem d_P_thing_49 : decode y_P_thing.2.1 49 = .ok (.iconst 0, 1) := by decide +kernel
theorem d_P_thing_50 : decode y_P_thing.2.1 50 = .ok (.ireturn, 1) := by decide +kernel
theorem d_P_thing_51 : decode y_P_thing.2.1 51 = .ok (.aload_n 0, 1) := by decide +kernel
theorem d_P_thing_52 : decode y_P_thing.2.1 52 = .ok (.invokevirtual 84, 3) := by decide +kernel
theorem d_P_thing_55 : decode y_P_thing.2.1 55 = .ok (.ifCond .eq 71, 3) := by decide +kernel
theorem d_P_thing_58 : decode y_P_thing.2.1 58 = .ok (.aload_n 0, 1) := by decide +kernel
theorem d_P_thing_59 : decode y_P_thing.2.1 59 = .ok (.getfield 21, 3) := by decide +kernel
theorem d_P_thing_62 : decode y_P_thing.2.1 62 = .ok (.aload_n 0, 1) := by decide +kernel
theorem d_P_thing_63 : decode y_P_thing.2.1 63 = .ok (.getfield 41, 3) := by decide +kernel
theorem d_P_thing_66 : decode y_P_thing.2.1 66 = .ok (.iaload, 1) := by decide +kernel
theorem d_P_thing_67 : decode y_P_thing.2.1 67 = .ok (.bipush 48, 2) := by decide +kernel
theorem d_P_thing_69 : decode y_P_thing.2.1 69 = .ok (.isub, 1) := by decide +kernel
theorem d_P_thing_70 : decode y_P_thing.2.1 70 = .ok (.istore_n 2, 1) := by decide +kernel
theorem d_P_thing_71 : decode y_P_thing.2.1 71 = .ok (.aload_n 0, 1) := by decide +kernel
theorem d_P_thing_72 : decode y_P_thing.2.1 72 = .ok (.dup, 1) := by decide +kernel
theorem d_P_thing_73 : decode y_P_thing.2.1 73 = .ok (.getfield 41, 3) := by decide +kernel
theorem d_P_thing_76 : decode y_P_thing.2.1 76 = .ok (.iconst 1, 1) := by decide +kernel
theorem d_P_thing_77 : decode y_P_thing.2.1 77 = .ok (.iadd, 1) := by decide +kernel
theorem d_P_thing_78 : decode y_P_thing.2.1 78 = .ok (.putfield 41, 3) := by decide +kernel
theorem d_P_thing_81 : decode y_P_thing.2.1 81 = .ok (.aload_n 0, 1) := by decide +kernel
theorem d_P_thing_82 : decode y_P_thing.2.1 82 = .ok (.invokevirtual 84, 3) := by decide +kernel
theorem d_P_thing_85 : decode y_P_thing.2.1 85 = .ok (.ifCond .eq 31, 3) := by decide +kernel
theorem d_P_thing_88 : decode y_P_thing.2.1 88 = .ok (.iload_n 2, 1) := by decide +kernel
theorem d_P_thing_89 : decode y_P_thing.2.1 89 = .ok (.bipush 10, 2) := by decide +kernel
theorem d_P_thing_91 : decode y_P_thing.2.1 91 = .ok (.imul, 1) := by decide +kernel
theorem d_P_thing_92 : decode y_P_thing.2.1 92 = .ok (.aload_n 0, 1) := by decide +kernel
theorem d_P_thing_93 : decode y_P_thing.2.1 93 = .ok (.getfield 21, 3) := by decide +kernel
theorem d_P_thing_96 : decode y_P_thing.2.1 96 = .ok (.aload_n 0, 1) := by decide +kernel
theorem d_P_thing_97 : decode y_P_thing.2.1 97 = .ok (.getfield 41, 3) := by decide +kernel
theorem d_P_thing_100 : decode y_P_thing.2.1 100 = .ok (.iaload, 1) := by decide +kernel
theorem d_P_thing_101 : decode y_P_thing.2.1 101 = .ok (.iadd, 1) := by decide +kernel
theorem d_P_thing_102 : decode y_P_thing.2.1 102 = .ok (.bipush 48, 2) := by decide +kernel
theorem d_P_thing_104 : decode y_P_thing.2.1 104 = .ok (.isub, 1) := by decide +kernel
theorem d_P_thing_105 : decode y_P_thing.2.1 105 = .ok (.istore_n 2, 1) := by decide +kernel
theorem d_P_thing_106 : decode y_P_thing.2.1 106 = .ok (.aload_n 0, 1) := by decide +kernel
theorem d_P_thing_107 : decode y_P_thing.2.1 107 = .ok (.dup, 1) := by decide +kernel
theorem d_P_thing_108 : decode y_P_thing.2.1 108 = .ok (.getfield 41, 3) := by decide +kernel
theorem d_P_thing_111 : decode y_P_thing.2.1 111 = .ok (.iconst 1, 1) := by decide +kernel
theorem d_P_thing_112 : decode y_P_thing.2.1 112 = .ok (.iadd, 1) := by decide +kernel
theorem d_P_thing_113 : decode y_P_thing.2.1 113 = .ok (.putfield 41, 3) := by decide +kernel
theorem d_P_thing_116 : decode y_P_thing.2.1 116 = .ok (.aload_n 0, 1) := by decide +kernel
theorem d_P_thing_117 : decode y_P_thing.2.1 117 = .ok (.getfield 25, 3) := by decide +kernel
theorem d_P_thing_120 : decode y_P_thing.2.1 120 = .ok (.iload_n 2, 1) := by decide +kernel
theorem d_P_thing_121 : decode y_P_thing.2.1 121 = .ok (.invokevirtual 68, 3) := by decide +kernel
theorem d_P_thing_124 : decode y_P_thing.2.1 124 = .ok (.iconst 1, 1) := by decide +kernel
theorem d_P_thing_125 : decode y_P_thing.2.1 125 = .ok (.ireturn, 1) := by decide +kernel
theorem d_P_thing_126 : decode y_P_thing.2.1 126 = .ok (.aload_n 0, 1) := by decide +kernel
theorem d_P_thing_127 : decode y_P_thing.2.1 127 = .ok (.getfield 41, 3) := by decide +kernel
theorem d_P_thing_130 : decode y_P_thing.2.1 130 = .ok (.aload_n 0, 1) := by decide +kernel
theorem d_P_thing_131 : decode y_P_thing.2.1 131 = .ok (.getfield 38, 3) := by decide +kernel
theorem d_P_thing_134 : decode y_P_thing.2.1 134 = .ok (.if_icmp .ge 65, 3) := by decide +kernel
theorem d_P_thing_137 : decode y_P_thing.2.1 137 = .ok (.aload_n 0, 1) := by decide +kernel
theorem d_P_thing_138 : decode y_P_thing.2.1 138 = .ok (.getfield 21, 3) := by decide +kernel
theorem d_P_thing_141 : decode y_P_thing.2.1 141 = .ok (.aload_n 0, 1) := by decide +kernel
theorem d_P_thing_142 : decode y_P_thing.2.1 142 = .ok (.getfield 41, 3) := by decide +kernel
theorem d_P_thing_145 : decode y_P_thing.2.1 145 = .ok (.iaload, 1) := by decide +kernel
theorem d_P_thing_146 : decode y_P_thing.2.1 146 = .ok (.bipush 97, 2) := by decide +kernel
theorem d_P_thing_148 : decode y_P_thing.2.1 148 = .ok (.if_icmp .lt 51, 3) := by decide +kernel
theorem d_P_thing_151 : decode y_P_thing.2.1 151 = .ok (.aload_n 0, 1) := by decide +kernel
theorem d_P_thing_152 : decode y_P_thing.2.1 152 = .ok (.getfield 21, 3) := by decide +kernel
theorem d_P_thing_155 : decode y_P_thing.2.1 155 = .ok (.aload_n 0, 1) := by decide +kernel
theorem d_P_thing_156 : decode y_P_thing.2.1 156 = .ok (.getfield 41, 3) := by decide +kernel
theorem d_P_thing_159 : decode y_P_thing.2.1 159 = .ok (.iaload, 1) := by decide +kernel
theorem d_P_thing_160 : decode y_P_thing.2.1 160 = .ok (.bipush 109, 2) := by decide +kernel
theorem d_P_thing_162 : decode y_P_thing.2.1 162 = .ok (.if_icmp .ge 37, 3) := by decide +kernel
theorem d_P_thing_165 : decode y_P_thing.2.1 165 = .ok (.aload_n 0, 1) := by decide +kernel
theorem d_P_thing_166 : decode y_P_thing.2.1 166 = .ok (.getfield 25, 3) := by decide +kernel
theorem d_P_thing_169 : decode y_P_thing.2.1 169 = .ok (.bipush 100, 2) := by decide +kernel
theorem d_P_thing_171 : decode y_P_thing.2.1 171 = .ok (.aload_n 0, 1) := by decide +kernel
theorem d_P_thing_172 : decode y_P_thing.2.1 172 = .ok (.getfield 21, 3) := by decide +kernel
theorem d_P_thing_175 : decode y_P_thing.2.1 175 = .ok (.aload_n 0, 1) := by decide +kernel
theorem d_P_thing_176 : decode y_P_thing.2.1 176 = .ok (.getfield 41, 3) := by decide +kernel
theorem d_P_thing_179 : decode y_P_thing.2.1 179 = .ok (.iaload, 1) := by decide +kernel
theorem d_P_thing_180 : decode y_P_thing.2.1 180 = .ok (.iadd, 1) := by decide +kernel
theorem d_P_thing_181 : decode y_P_thing.2.1 181 = .ok (.bipush 97, 2) := by decide +kernel
theorem d_P_thing_183 : decode y_P_thing.2.1 183 = .ok (.isub, 1) := by decide +kernel
theorem d_P_thing_184 : decode y_P_thing.2.1 184 = .ok (.invokevirtual 68, 3) := by decide +kernel
theorem d_P_thing_187 : decode y_P_thing.2.1 187 = .ok (.aload_n 0, 1) := by decide +kernel
theorem d_P_thing_188 : decode y_P_thing.2.1 188 = .ok (.dup, 1) := by decide +kernel
theorem d_P_thing_189 : decode y_P_thing.2.1 189 = .ok (.getfield 41, 3) := by decide +kernel
theorem d_P_thing_192 : decode y_P_thing.2.1 192 = .ok (.iconst 1, 1) := by decide +kernel
theorem d_P_thing_193 : decode y_P_thing.2.1 193 = .ok (.iadd, 1) := by decide +kernel
theorem d_P_thing_194 : decode y_P_thing.2.1 194 = .ok (.putfield 41, 3) := by decide +kernel
theorem d_P_thing_197 : decode y_P_thing.2.1 197 = .ok (.iconst 1, 1) := by decide +kernel
theorem d_P_thing_198 : decode y_P_thing.2.1 198 = .ok (.ireturn, 1) := by decide +kernel
theorem d_P_thing_199 : decode y_P_thing.2.1 199 = .ok (.aload_n 0, 1) := by decide +kernel
theorem d_P_thing_200 : decode y_P_thing.2.1 200 = .ok (.bipush 110, 2) := by decide +kernel
theorem d_P_thing_202 : decode y_P_thing.2.1 202 = .ok (.invokevirtual 58, 3) := by decide +kernel
theorem d_P_thing_205 : decode y_P_thing.2.1 205 = .ok (.ifCond .eq 8, 3) := by decide +kernel
theorem d_P_thing_208 : decode y_P_thing.2.1 208 = .ok (.bipush 120, 2) := by decide +kernel
theorem d_P_thing_210 : decode y_P_thing.2.1 210 = .ok (.goto 32, 3) := by decide +kernel
theorem d_P_thing_213 : decode y_P_thing.2.1 213 = .ok (.aload_n 0, 1) := by decide +kernel
theorem d_P_thing_214 : decode y_P_thing.2.1 214 = .ok (.bipush 114, 2) := by decide +kernel
theorem d_P_thing_216 : decode y_P_thing.2.1 216 = .ok (.invokevirtual 58, 3) := by decide +kernel
theorem d_P_thing_219 : decode y_P_thing.2.1 219 = .ok (.ifCond .eq 8, 3) := by decide +kernel
theorem d_P_thing_222 : decode y_P_thing.2.1 222 = .ok (.bipush 121, 2) := by decide +kernel
theorem d_P_thing_224 : decode y_P_thing.2.1 224 = .ok (.goto 18, 3) := by decide +kernel
theorem d_P_thing_227 : decode y_P_thing.2.1 227 = .ok (.aload_n 0, 1) := by decide +kernel
theorem d_P_thing_228 : decode y_P_thing.2.1 228 = .ok (.bipush 116, 2) := by decide +kernel
theorem d_P_thing_230 : decode y_P_thing.2.1 230 = .ok (.invokevirtual 58, 3) := by decide +kernel
theorem d_P_thing_233 : decode y_P_thing.2.1 233 = .ok (.ifCond .eq 8, 3) := by decide +kernel
theorem d_P_thing_236 : decode y_P_thing.2.1 236 = .ok (.bipush 122, 2) := by decide +kernel
theorem d_P_thing_238 : decode y_P_thing.2.1 238 = .ok (.goto 4, 3) := by decide +kernel
theorem d_P_thing_241 : decode y_P_thing.2.1 241 = .ok (.iconst 0, 1) := by decide +kernel
theorem d_P_thing_242 : decode y_P_thing.2.1 242 = .ok (.istore_n 2, 1) := by decide +kernel
theorem d_P_thing_243 : decode y_P_thing.2.1 243 = .ok (.iload_n 2, 1) := by decide +kernel
theorem d_P_thing_244 : decode y_P_thing.2.1 244 = .ok (.ifCond .eq 11, 3) := by decide +kernel
theorem d_P_thing_247 : decode y_P_thing.2.1 247 = .ok (.aload_n 0, 1) := by decide +kernel
theorem d_P_thing_248 : decode y_P_thing.2.1 248 = .ok (.getfield 25, 3) := by decide +kernel
theorem d_P_thing_251 : decode y_P_thing.2.1 251 = .ok (.iload_n 2, 1) := by decide +kernel
theorem d_P_thing_252 : decode y_P_thing.2.1 252 = .ok (.invokevirtual 68, 3) := by decide +kernel
theorem d_P_thing_255 : decode y_P_thing.2.1 255 = .ok (.iload_n 2, 1) := by decide +kernel
theorem d_P_thing_256 : decode y_P_thing.2.1 256 = .ok (.ifCond .eq 7, 3) := by decide +kernel
theorem d_P_thing_259 : decode y_P_thing.2.1 259 = .ok (.iconst 1, 1) := by decide +kernel
theorem d_P_thing_260 : decode y_P_thing.2.1 260 = .ok (.goto 4, 3) := by decide +kernel
theorem d_P_thing_263 : decode y_P_thing.2.1 263 = .ok (.iconst 0, 1) := by decide +kernel
theorem d_P_thing_264 : decode y_P_thing.2.1 264 = .ok (.ireturn, 1) := by decide +kernel
theorem d_P_isDigit_0 : decode y_P_isDigit.2.1 0 = .ok (.aload_n 0, 1) := by decide +kernel
theorem d_P_isDigit_1 : decode y_P_isDigit.2.1 1 = .ok (.getfield 41, 3) := by decide +kernel
theorem d_P_isDigit_4 : decode y_P_isDigit.2.1 4 = .ok (.aload_n 0, 1) := by decide +kernel
theorem d_P_isDigit_5 : decode y_P_isDigit.2.1 5 = .ok (.getfield 38, 3) := by decide +kernel
theorem d_P_isDigit_8 : decode y_P_isDigit.2.1 8 = .ok (.if_icmp .ge 35, 3) := by decide +kernel
theorem d_P_isDigit_11 : decode y_P_isDigit.2.1 11 = .ok (.aload_n 0, 1) := by decide +kernel
theorem d_P_isDigit_12 : decode y_P_isDigit.2.1 12 = .ok (.getfield 21, 3) := by decide +kernel
theorem d_P_isDigit_15 : decode y_P_isDigit.2.1 15 = .ok (.aload_n 0, 1) := by decide +kernel
theorem d_P_isDigit_16 : decode y_P_isDigit.2.1 16 = .ok (.getfield 41, 3) := by decide +kernel
theorem d_P_isDigit_19 : decode y_P_isDigit.2.1 19 = .ok (.iaload, 1) := by decide +kernel
theorem d_P_isDigit_20 : decode y_P_isDigit.2.1 20 = .ok (.bipush 48, 2) := by decide +kernel
theorem d_P_isDigit_22 : decode y_P_isDigit.2.1 22 = .ok (.if_icmp .lt 21, 3) := by decide +kernel
theorem d_P_isDigit_25 : decode y_P_isDigit.2.1 25 = .ok (.aload_n 0, 1) := by decide +kernel
theorem d_P_isDigit_26 : decode y_P_isDigit.2.1 26 = .ok (.getfield 21, 3) := by decide +kernel
theorem d_P_isDigit_29 : decode y_P_isDigit.2.1 29 = .ok (.aload_n 0, 1) := by decide +kernel
theorem d_P_isDigit_30 : decode y_P_isDigit.2.1 30 = .ok (.getfield 41, 3) := by decide +kernel
theorem d_P_isDigit_33 : decode y_P_isDigit.2.1 33 = .ok (.iaload, 1) := by decide +kernel
theorem d_P_isDigit_34 : decode y_P_isDigit.2.1 34 = .ok (.bipush 57, 2) := by decide +kernel
theorem d_P_isDigit_36 : decode y_P_isDigit.2.1 36 = .ok (.if_icmp .gt 7, 3) := by decide +kernel
theorem d_P_isDigit_39 : decode y_P_isDigit.2.1 39 = .ok (.iconst 1, 1) := by decide +kernel
theorem d_P_isDigit_40 : decode y_P_isDigit.2.1 40 = .ok (.goto 4, 3) := by decide +kernel
theorem d_P_isDigit_43 : decode y_P_isDigit.2.1 43 = .ok (.iconst 0, 1) := by decide +kernel
theorem d_P_isDigit_44 : decode y_P_isDigit.2.1 44 = .ok (.ireturn, 1) := by decide +kernel
