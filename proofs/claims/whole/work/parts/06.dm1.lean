-- DECODE ROWS of the methods, as the claim's program prints them
theorem d_M_thrown_0 : decode y_M_thrown.2.1 0 = .ok (.aload_n 0, 1) := by decide +kernel
theorem d_M_thrown_1 : decode y_M_thrown.2.1 1 = .ok (.getfield 3, 3) := by decide +kernel
theorem d_M_thrown_4 : decode y_M_thrown.2.1 4 = .ok (.ireturn, 1) := by decide +kernel
theorem d_M_refuse_0 : decode y_M_refuse.2.1 0 = .ok (.aload_n 0, 1) := by decide +kernel
theorem d_M_refuse_1 : decode y_M_refuse.2.1 1 = .ok (.iconst 1, 1) := by decide +kernel
theorem d_M_refuse_2 : decode y_M_refuse.2.1 2 = .ok (.putfield 3, 3) := by decide +kernel
theorem d_M_refuse_5 : decode y_M_refuse.2.1 5 = .ok (.iconst 0, 1) := by decide +kernel
theorem d_M_refuse_6 : decode y_M_refuse.2.1 6 = .ok (.ireturn, 1) := by decide +kernel
theorem d_M_in_0 : decode y_M_in.2.1 0 = .ok (.lload_n 0, 1) := by decide +kernel
theorem d_M_in_1 : decode y_M_in.2.1 1 = .ok (.lload_n 2, 1) := by decide +kernel
theorem d_M_in_2 : decode y_M_in.2.1 2 = .ok (.lcmp, 1) := by decide +kernel
theorem d_M_in_3 : decode y_M_in.2.1 3 = .ok (.ifCond .lt 14, 3) := by decide +kernel
theorem d_M_in_6 : decode y_M_in.2.1 6 = .ok (.lload_n 0, 1) := by decide +kernel
theorem d_M_in_7 : decode y_M_in.2.1 7 = .ok (.lload 4, 2) := by decide +kernel
theorem d_M_in_9 : decode y_M_in.2.1 9 = .ok (.lcmp, 1) := by decide +kernel
theorem d_M_in_10 : decode y_M_in.2.1 10 = .ok (.ifCond .gt 7, 3) := by decide +kernel
theorem d_M_in_13 : decode y_M_in.2.1 13 = .ok (.iconst 1, 1) := by decide +kernel
theorem d_M_in_14 : decode y_M_in.2.1 14 = .ok (.goto 4, 3) := by decide +kernel
theorem d_M_in_17 : decode y_M_in.2.1 17 = .ok (.iconst 0, 1) := by decide +kernel
theorem d_M_in_18 : decode y_M_in.2.1 18 = .ok (.ireturn, 1) := by decide +kernel
theorem d_M_has_0 : decode y_M_has.2.1 0 = .ok (.iload_n 0, 1) := by decide +kernel
theorem d_M_has_1 : decode y_M_has.2.1 1 = .ok (.iload_n 1, 1) := by decide +kernel
theorem d_M_has_2 : decode y_M_has.2.1 2 = .ok (.ishr, 1) := by decide +kernel
theorem d_M_has_3 : decode y_M_has.2.1 3 = .ok (.iconst 1, 1) := by decide +kernel
theorem d_M_has_4 : decode y_M_has.2.1 4 = .ok (.iand, 1) := by decide +kernel
theorem d_M_has_5 : decode y_M_has.2.1 5 = .ok (.iconst 1, 1) := by decide +kernel
theorem d_M_has_6 : decode y_M_has.2.1 6 = .ok (.if_icmp .ne 7, 3) := by decide +kernel
theorem d_M_has_9 : decode y_M_has.2.1 9 = .ok (.iconst 1, 1) := by decide +kernel
theorem d_M_has_10 : decode y_M_has.2.1 10 = .ok (.goto 4, 3) := by decide +kernel
theorem d_M_has_13 : decode y_M_has.2.1 13 = .ok (.iconst 0, 1) := by decide +kernel
theorem d_M_has_14 : decode y_M_has.2.1 14 = .ok (.ireturn, 1) := by decide +kernel
theorem d_M_flag_0 : decode y_M_flag.2.1 0 = .ok (.iload_n 0, 1) := by decide +kernel
theorem d_M_flag_1 : decode y_M_flag.2.1 1 = .ok (.ifCond .eq 7, 3) := by decide +kernel
theorem d_M_flag_4 : decode y_M_flag.2.1 4 = .ok (.iconst 1, 1) := by decide +kernel
theorem d_M_flag_5 : decode y_M_flag.2.1 5 = .ok (.goto 4, 3) := by decide +kernel
theorem d_M_flag_8 : decode y_M_flag.2.1 8 = .ok (.iconst 0, 1) := by decide +kernel
theorem d_M_flag_9 : decode y_M_flag.2.1 9 = .ok (.ireturn, 1) := by decide +kernel
theorem d_M_enters_0 : decode y_M_enters.2.1 0 = .ok (.aload_n 0, 1) := by decide +kernel
theorem d_M_enters_1 : decode y_M_enters.2.1 1 = .ok (.getfield 7, 3) := by decide +kernel
theorem d_M_enters_4 : decode y_M_enters.2.1 4 = .ok (.aload_n 0, 1) := by decide +kernel
theorem d_M_enters_5 : decode y_M_enters.2.1 5 = .ok (.getfield 11, 3) := by decide +kernel
theorem d_M_enters_8 : decode y_M_enters.2.1 8 = .ok (.iload_n 1, 1) := by decide +kernel
theorem d_M_enters_9 : decode y_M_enters.2.1 9 = .ok (.iastore, 1) := by decide +kernel
theorem d_M_enters_10 : decode y_M_enters.2.1 10 = .ok (.aload_n 0, 1) := by decide +kernel
theorem d_M_enters_11 : decode y_M_enters.2.1 11 = .ok (.dup, 1) := by decide +kernel
theorem d_M_enters_12 : decode y_M_enters.2.1 12 = .ok (.getfield 11, 3) := by decide +kernel
theorem d_M_enters_15 : decode y_M_enters.2.1 15 = .ok (.iconst 1, 1) := by decide +kernel
theorem d_M_enters_16 : decode y_M_enters.2.1 16 = .ok (.iadd, 1) := by decide +kernel
theorem d_M_enters_17 : decode y_M_enters.2.1 17 = .ok (.putfield 11, 3) := by decide +kernel
theorem d_M_enters_20 : decode y_M_enters.2.1 20 = .ok (.return_, 1) := by decide +kernel
theorem d_M_isBook_0 : decode y_M_isBook.2.1 0 = .ok (.iload_n 1, 1) := by decide +kernel
theorem d_M_isBook_1 : decode y_M_isBook.2.1 1 = .ok (.i2l, 1) := by decide +kernel
theorem d_M_isBook_2 : decode y_M_isBook.2.1 2 = .ok (.lconst 0, 1) := by decide +kernel
theorem d_M_isBook_3 : decode y_M_isBook.2.1 3 = .ok (.aload_n 0, 1) := by decide +kernel
theorem d_M_isBook_4 : decode y_M_isBook.2.1 4 = .ok (.getfield 14, 3) := by decide +kernel
theorem d_M_isBook_7 : decode y_M_isBook.2.1 7 = .ok (.iconst 1, 1) := by decide +kernel
theorem d_M_isBook_8 : decode y_M_isBook.2.1 8 = .ok (.isub, 1) := by decide +kernel
theorem d_M_isBook_9 : decode y_M_isBook.2.1 9 = .ok (.i2l, 1) := by decide +kernel
theorem d_M_isBook_10 : decode y_M_isBook.2.1 10 = .ok (.invokestatic 17, 3) := by decide +kernel
theorem d_M_isBook_13 : decode y_M_isBook.2.1 13 = .ok (.ireturn, 1) := by decide +kernel
theorem d_M_isTable_0 : decode y_M_isTable.2.1 0 = .ok (.iload_n 0, 1) := by decide +kernel
theorem d_M_isTable_1 : decode y_M_isTable.2.1 1 = .ok (.i2l, 1) := by decide +kernel
theorem d_M_isTable_2 : decode y_M_isTable.2.1 2 = .ok (.lconst 0, 1) := by decide +kernel
theorem d_M_isTable_3 : decode y_M_isTable.2.1 3 = .ok (.ldc2_w 21, 3) := by decide +kernel
theorem d_M_isTable_6 : decode y_M_isTable.2.1 6 = .ok (.invokestatic 17, 3) := by decide +kernel
theorem d_M_isTable_9 : decode y_M_isTable.2.1 9 = .ok (.ireturn, 1) := by decide +kernel
theorem d_M_isReader_0 : decode y_M_isReader.2.1 0 = .ok (.iload_n 1, 1) := by decide +kernel
theorem d_M_isReader_1 : decode y_M_isReader.2.1 1 = .ok (.i2l, 1) := by decide +kernel
theorem d_M_isReader_2 : decode y_M_isReader.2.1 2 = .ok (.lconst 0, 1) := by decide +kernel
theorem d_M_isReader_3 : decode y_M_isReader.2.1 3 = .ok (.aload_n 0, 1) := by decide +kernel
theorem d_M_isReader_4 : decode y_M_isReader.2.1 4 = .ok (.getfield 23, 3) := by decide +kernel
theorem d_M_isReader_7 : decode y_M_isReader.2.1 7 = .ok (.iconst 1, 1) := by decide +kernel
theorem d_M_isReader_8 : decode y_M_isReader.2.1 8 = .ok (.isub, 1) := by decide +kernel
theorem d_M_isReader_9 : decode y_M_isReader.2.1 9 = .ok (.i2l, 1) := by decide +kernel
theorem d_M_isReader_10 : decode y_M_isReader.2.1 10 = .ok (.invokestatic 17, 3) := by decide +kernel
theorem d_M_isReader_13 : decode y_M_isReader.2.1 13 = .ok (.ireturn, 1) := by decide +kernel
theorem d_M_areBooks_0 : decode y_M_areBooks.2.1 0 = .ok (.iload_n 1, 1) := by decide +kernel
theorem d_M_areBooks_1 : decode y_M_areBooks.2.1 1 = .ok (.i2l, 1) := by decide +kernel
theorem d_M_areBooks_2 : decode y_M_areBooks.2.1 2 = .ok (.lconst 0, 1) := by decide +kernel
theorem d_M_areBooks_3 : decode y_M_areBooks.2.1 3 = .ok (.iconst 1, 1) := by decide +kernel
theorem d_M_areBooks_4 : decode y_M_areBooks.2.1 4 = .ok (.aload_n 0, 1) := by decide +kernel
theorem d_M_areBooks_5 : decode y_M_areBooks.2.1 5 = .ok (.getfield 14, 3) := by decide +kernel
theorem d_M_areBooks_8 : decode y_M_areBooks.2.1 8 = .ok (.ishl, 1) := by decide +kernel
theorem d_M_areBooks_9 : decode y_M_areBooks.2.1 9 = .ok (.iconst 1, 1) := by decide +kernel
theorem d_M_areBooks_10 : decode y_M_areBooks.2.1 10 = .ok (.isub, 1) := by decide +kernel
theorem d_M_areBooks_11 : decode y_M_areBooks.2.1 11 = .ok (.i2l, 1) := by decide +kernel
theorem d_M_areBooks_12 : decode y_M_areBooks.2.1 12 = .ok (.invokestatic 17, 3) := by decide +kernel
theorem d_M_areBooks_15 : decode y_M_areBooks.2.1 15 = .ok (.ireturn, 1) := by decide +kernel
theorem d_M_readBy_0 : decode y_M_readBy.2.1 0 = .ok (.iconst 0, 1) := by decide +kernel
theorem d_M_readBy_1 : decode y_M_readBy.2.1 1 = .ok (.istore_n 2, 1) := by decide +kernel
theorem d_M_readBy_2 : decode y_M_readBy.2.1 2 = .ok (.iconst 0, 1) := by decide +kernel
theorem d_M_readBy_3 : decode y_M_readBy.2.1 3 = .ok (.istore_n 3, 1) := by decide +kernel
theorem d_M_readBy_4 : decode y_M_readBy.2.1 4 = .ok (.iload_n 3, 1) := by decide +kernel
theorem d_M_readBy_5 : decode y_M_readBy.2.1 5 = .ok (.aload_n 0, 1) := by decide +kernel
theorem d_M_readBy_6 : decode y_M_readBy.2.1 6 = .ok (.getfield 23, 3) := by decide +kernel
theorem d_M_readBy_9 : decode y_M_readBy.2.1 9 = .ok (.if_icmp .ge 25, 3) := by decide +kernel
theorem d_M_readBy_12 : decode y_M_readBy.2.1 12 = .ok (.iload_n 2, 1) := by decide +kernel
theorem d_M_readBy_13 : decode y_M_readBy.2.1 13 = .ok (.aload_n 0, 1) := by decide +kernel
theorem d_M_readBy_14 : decode y_M_readBy.2.1 14 = .ok (.getfield 26, 3) := by decide +kernel
theorem d_M_readBy_17 : decode y_M_readBy.2.1 17 = .ok (.iload_n 3, 1) := by decide +kernel
theorem d_M_readBy_18 : decode y_M_readBy.2.1 18 = .ok (.iaload, 1) := by decide +kernel
theorem d_M_readBy_19 : decode y_M_readBy.2.1 19 = .ok (.iload_n 1, 1) := by decide +kernel
theorem d_M_readBy_20 : decode y_M_readBy.2.1 20 = .ok (.invokestatic 29, 3) := by decide +kernel
theorem d_M_readBy_23 : decode y_M_readBy.2.1 23 = .ok (.invokestatic 33, 3) := by decide +kernel
theorem d_M_readBy_26 : decode y_M_readBy.2.1 26 = .ok (.iadd, 1) := by decide +kernel
theorem d_M_readBy_27 : decode y_M_readBy.2.1 27 = .ok (.istore_n 2, 1) := by decide +kernel
theorem d_M_readBy_28 : decode y_M_readBy.2.1 28 = .ok (.iinc 3 1, 3) := by decide +kernel
theorem d_M_readBy_31 : decode y_M_readBy.2.1 31 = .ok (.goto (-27), 3) := by decide +kernel
theorem d_M_readBy_34 : decode y_M_readBy.2.1 34 = .ok (.iload_n 2, 1) := by decide +kernel
theorem d_M_readBy_35 : decode y_M_readBy.2.1 35 = .ok (.ireturn, 1) := by decide +kernel
theorem d_M_sign_0 : decode y_M_sign.2.1 0 = .ok (.aload_n 0, 1) := by decide +kernel
theorem d_M_sign_1 : decode y_M_sign.2.1 1 = .ok (.iconst 0, 1) := by decide +kernel
theorem d_M_sign_2 : decode y_M_sign.2.1 2 = .ok (.putfield 3, 3) := by decide +kernel
theorem d_M_sign_5 : decode y_M_sign.2.1 5 = .ok (.aload_n 0, 1) := by decide +kernel
theorem d_M_sign_6 : decode y_M_sign.2.1 6 = .ok (.getfield 37, 3) := by decide +kernel
theorem d_M_sign_9 : decode y_M_sign.2.1 9 = .ok (.bipush 76, 2) := by decide +kernel
theorem d_M_sign_11 : decode y_M_sign.2.1 11 = .ok (.if_icmp .le 5, 3) := by decide +kernel
theorem d_M_sign_14 : decode y_M_sign.2.1 14 = .ok (.iconst (-1), 1) := by decide +kernel
theorem d_M_sign_15 : decode y_M_sign.2.1 15 = .ok (.ireturn, 1) := by decide +kernel
theorem d_M_sign_16 : decode y_M_sign.2.1 16 = .ok (.iconst 0, 1) := by decide +kernel
theorem d_M_sign_17 : decode y_M_sign.2.1 17 = .ok (.istore_n 2, 1) := by decide +kernel
theorem d_M_sign_18 : decode y_M_sign.2.1 18 = .ok (.iload_n 2, 1) := by decide +kernel
theorem d_M_sign_19 : decode y_M_sign.2.1 19 = .ok (.iconst 4, 1) := by decide +kernel
theorem d_M_sign_20 : decode y_M_sign.2.1 20 = .ok (.if_icmp .ge 33, 3) := by decide +kernel
theorem d_M_sign_23 : decode y_M_sign.2.1 23 = .ok (.aload_n 0, 1) := by decide +kernel
theorem d_M_sign_24 : decode y_M_sign.2.1 24 = .ok (.getfield 40, 3) := by decide +kernel
theorem d_M_sign_27 : decode y_M_sign.2.1 27 = .ok (.aload_n 0, 1) := by decide +kernel
theorem d_M_sign_28 : decode y_M_sign.2.1 28 = .ok (.getfield 37, 3) := by decide +kernel
theorem d_M_sign_31 : decode y_M_sign.2.1 31 = .ok (.iload_n 2, 1) := by decide +kernel
theorem d_M_sign_32 : decode y_M_sign.2.1 32 = .ok (.iadd, 1) := by decide +kernel
theorem d_M_sign_33 : decode y_M_sign.2.1 33 = .ok (.iload_n 1, 1) := by decide +kernel
theorem d_M_sign_34 : decode y_M_sign.2.1 34 = .ok (.bipush 24, 2) := by decide +kernel
theorem d_M_sign_36 : decode y_M_sign.2.1 36 = .ok (.bipush 8, 2) := by decide +kernel
theorem d_M_sign_38 : decode y_M_sign.2.1 38 = .ok (.iload_n 2, 1) := by decide +kernel
theorem d_M_sign_39 : decode y_M_sign.2.1 39 = .ok (.imul, 1) := by decide +kernel
theorem d_M_sign_40 : decode y_M_sign.2.1 40 = .ok (.isub, 1) := by decide +kernel
theorem d_M_sign_41 : decode y_M_sign.2.1 41 = .ok (.ishr, 1) := by decide +kernel
theorem d_M_sign_42 : decode y_M_sign.2.1 42 = .ok (.sipush 255, 3) := by decide +kernel
theorem d_M_sign_45 : decode y_M_sign.2.1 45 = .ok (.iand, 1) := by decide +kernel
theorem d_M_sign_46 : decode y_M_sign.2.1 46 = .ok (.iastore, 1) := by decide +kernel
theorem d_M_sign_47 : decode y_M_sign.2.1 47 = .ok (.iinc 2 1, 3) := by decide +kernel
theorem d_M_sign_50 : decode y_M_sign.2.1 50 = .ok (.goto (-32), 3) := by decide +kernel
theorem d_M_sign_53 : decode y_M_sign.2.1 53 = .ok (.aload_n 0, 1) := by decide +kernel
theorem d_M_sign_54 : decode y_M_sign.2.1 54 = .ok (.dup, 1) := by decide +kernel
theorem d_M_sign_55 : decode y_M_sign.2.1 55 = .ok (.getfield 37, 3) := by decide +kernel
theorem d_M_sign_58 : decode y_M_sign.2.1 58 = .ok (.iconst 4, 1) := by decide +kernel
theorem d_M_sign_59 : decode y_M_sign.2.1 59 = .ok (.iadd, 1) := by decide +kernel
theorem d_M_sign_60 : decode y_M_sign.2.1 60 = .ok (.putfield 37, 3) := by decide +kernel
theorem d_M_sign_63 : decode y_M_sign.2.1 63 = .ok (.aload_n 0, 1) := by decide +kernel
theorem d_M_sign_64 : decode y_M_sign.2.1 64 = .ok (.getfield 37, 3) := by decide +kernel
theorem d_M_sign_67 : decode y_M_sign.2.1 67 = .ok (.ireturn, 1) := by decide +kernel
theorem d_M_end_0 : decode y_M_end.2.1 0 = .ok (.aload_n 0, 1) := by decide +kernel
theorem d_M_end_1 : decode y_M_end.2.1 1 = .ok (.iconst 0, 1) := by decide +kernel
theorem d_M_end_2 : decode y_M_end.2.1 2 = .ok (.putfield 3, 3) := by decide +kernel
theorem d_M_end_5 : decode y_M_end.2.1 5 = .ok (.iload_n 1, 1) := by decide +kernel
theorem d_M_end_6 : decode y_M_end.2.1 6 = .ok (.i2l, 1) := by decide +kernel
theorem d_M_end_7 : decode y_M_end.2.1 7 = .ok (.lconst 0, 1) := by decide +kernel
theorem d_M_end_8 : decode y_M_end.2.1 8 = .ok (.aload_n 0, 1) := by decide +kernel
theorem d_M_end_9 : decode y_M_end.2.1 9 = .ok (.getfield 37, 3) := by decide +kernel
theorem d_M_end_12 : decode y_M_end.2.1 12 = .ok (.i2l, 1) := by decide +kernel
theorem d_M_end_13 : decode y_M_end.2.1 13 = .ok (.invokestatic 17, 3) := by decide +kernel
theorem d_M_end_16 : decode y_M_end.2.1 16 = .ok (.ifCond .ne 5, 3) := by decide +kernel
theorem d_M_end_19 : decode y_M_end.2.1 19 = .ok (.iconst 0, 1) := by decide +kernel
theorem d_M_end_20 : decode y_M_end.2.1 20 = .ok (.ireturn, 1) := by decide +kernel
theorem d_M_end_21 : decode y_M_end.2.1 21 = .ok (.aload_n 0, 1) := by decide +kernel
theorem d_M_end_22 : decode y_M_end.2.1 22 = .ok (.iload_n 1, 1) := by decide +kernel
theorem d_M_end_23 : decode y_M_end.2.1 23 = .ok (.putfield 37, 3) := by decide +kernel
theorem d_M_end_26 : decode y_M_end.2.1 26 = .ok (.iconst 1, 1) := by decide +kernel
theorem d_M_end_27 : decode y_M_end.2.1 27 = .ok (.ireturn, 1) := by decide +kernel
theorem d_M_isDigit_0 : decode y_M_isDigit.2.1 0 = .ok (.aload_n 0, 1) := by decide +kernel
theorem d_M_isDigit_1 : decode y_M_isDigit.2.1 1 = .ok (.getfield 43, 3) := by decide +kernel
theorem d_M_isDigit_4 : decode y_M_isDigit.2.1 4 = .ok (.aload_n 0, 1) := by decide +kernel
theorem d_M_isDigit_5 : decode y_M_isDigit.2.1 5 = .ok (.getfield 46, 3) := by decide +kernel
theorem d_M_isDigit_8 : decode y_M_isDigit.2.1 8 = .ok (.if_icmp .ge 29, 3) := by decide +kernel
theorem d_M_isDigit_11 : decode y_M_isDigit.2.1 11 = .ok (.aload_n 0, 1) := by decide +kernel
theorem d_M_isDigit_12 : decode y_M_isDigit.2.1 12 = .ok (.getfield 40, 3) := by decide +kernel
theorem d_M_isDigit_15 : decode y_M_isDigit.2.1 15 = .ok (.aload_n 0, 1) := by decide +kernel
theorem d_M_isDigit_16 : decode y_M_isDigit.2.1 16 = .ok (.getfield 43, 3) := by decide +kernel
theorem d_M_isDigit_19 : decode y_M_isDigit.2.1 19 = .ok (.iaload, 1) := by decide +kernel
theorem d_M_isDigit_20 : decode y_M_isDigit.2.1 20 = .ok (.i2l, 1) := by decide +kernel
theorem d_M_isDigit_21 : decode y_M_isDigit.2.1 21 = .ok (.ldc2_w 49, 3) := by decide +kernel
theorem d_M_isDigit_24 : decode y_M_isDigit.2.1 24 = .ok (.ldc2_w 51, 3) := by decide +kernel
theorem d_M_isDigit_27 : decode y_M_isDigit.2.1 27 = .ok (.invokestatic 17, 3) := by decide +kernel
theorem d_M_isDigit_30 : decode y_M_isDigit.2.1 30 = .ok (.ifCond .eq 7, 3) := by decide +kernel
theorem d_M_isDigit_33 : decode y_M_isDigit.2.1 33 = .ok (.iconst 1, 1) := by decide +kernel
theorem d_M_isDigit_34 : decode y_M_isDigit.2.1 34 = .ok (.goto 4, 3) := by decide +kernel
theorem d_M_isDigit_37 : decode y_M_isDigit.2.1 37 = .ok (.iconst 0, 1) := by decide +kernel
theorem d_M_isDigit_38 : decode y_M_isDigit.2.1 38 = .ok (.ireturn, 1) := by decide +kernel
theorem d_M_takes_0 : decode y_M_takes.2.1 0 = .ok (.aload_n 0, 1) := by decide +kernel
theorem d_M_takes_1 : decode y_M_takes.2.1 1 = .ok (.getfield 43, 3) := by decide +kernel
theorem d_M_takes_4 : decode y_M_takes.2.1 4 = .ok (.aload_n 0, 1) := by decide +kernel
theorem d_M_takes_5 : decode y_M_takes.2.1 5 = .ok (.getfield 46, 3) := by decide +kernel
theorem d_M_takes_8 : decode y_M_takes.2.1 8 = .ok (.if_icmp .ge 20, 3) := by decide +kernel
theorem d_M_takes_11 : decode y_M_takes.2.1 11 = .ok (.aload_n 0, 1) := by decide +kernel
theorem d_M_takes_12 : decode y_M_takes.2.1 12 = .ok (.getfield 40, 3) := by decide +kernel
theorem d_M_takes_15 : decode y_M_takes.2.1 15 = .ok (.aload_n 0, 1) := by decide +kernel
theorem d_M_takes_16 : decode y_M_takes.2.1 16 = .ok (.getfield 43, 3) := by decide +kernel
theorem d_M_takes_19 : decode y_M_takes.2.1 19 = .ok (.iaload, 1) := by decide +kernel
theorem d_M_takes_20 : decode y_M_takes.2.1 20 = .ok (.iload_n 1, 1) := by decide +kernel
theorem d_M_takes_21 : decode y_M_takes.2.1 21 = .ok (.if_icmp .ne 7, 3) := by decide +kernel
theorem d_M_takes_24 : decode y_M_takes.2.1 24 = .ok (.iconst 1, 1) := by decide +kernel
theorem d_M_takes_25 : decode y_M_takes.2.1 25 = .ok (.goto 4, 3) := by decide +kernel
theorem d_M_takes_28 : decode y_M_takes.2.1 28 = .ok (.iconst 0, 1) := by decide +kernel
theorem d_M_takes_29 : decode y_M_takes.2.1 29 = .ok (.istore_n 2, 1) := by decide +kernel
theorem d_M_takes_30 : decode y_M_takes.2.1 30 = .ok (.aload_n 0, 1) := by decide +kernel
theorem d_M_takes_31 : decode y_M_takes.2.1 31 = .ok (.dup, 1) := by decide +kernel
theorem d_M_takes_32 : decode y_M_takes.2.1 32 = .ok (.getfield 43, 3) := by decide +kernel
theorem d_M_takes_35 : decode y_M_takes.2.1 35 = .ok (.iload_n 2, 1) := by decide +kernel
theorem d_M_takes_36 : decode y_M_takes.2.1 36 = .ok (.invokestatic 33, 3) := by decide +kernel
theorem d_M_takes_39 : decode y_M_takes.2.1 39 = .ok (.iadd, 1) := by decide +kernel
theorem d_M_takes_40 : decode y_M_takes.2.1 40 = .ok (.putfield 43, 3) := by decide +kernel
theorem d_M_takes_43 : decode y_M_takes.2.1 43 = .ok (.iload_n 2, 1) := by decide +kernel
theorem d_M_takes_44 : decode y_M_takes.2.1 44 = .ok (.ireturn, 1) := by decide +kernel
theorem d_M_marks_0 : decode y_M_marks.2.1 0 = .ok (.aload_n 0, 1) := by decide +kernel
theorem d_M_marks_1 : decode y_M_marks.2.1 1 = .ok (.getfield 63, 3) := by decide +kernel
theorem d_M_marks_4 : decode y_M_marks.2.1 4 = .ok (.bipush 64, 2) := by decide +kernel
theorem d_M_marks_6 : decode y_M_marks.2.1 6 = .ok (.aload_n 0, 1) := by decide +kernel
theorem d_M_marks_7 : decode y_M_marks.2.1 7 = .ok (.getfield 66, 3) := by decide +kernel
theorem d_M_marks_10 : decode y_M_marks.2.1 10 = .ok (.imul, 1) := by decide +kernel
theorem d_M_marks_11 : decode y_M_marks.2.1 11 = .ok (.aload_n 0, 1) := by decide +kernel
theorem d_M_marks_12 : decode y_M_marks.2.1 12 = .ok (.getfield 69, 3) := by decide +kernel
theorem d_M_marks_15 : decode y_M_marks.2.1 15 = .ok (.aload_n 0, 1) := by decide +kernel
theorem d_M_marks_16 : decode y_M_marks.2.1 16 = .ok (.getfield 66, 3) := by decide +kernel
theorem d_M_marks_19 : decode y_M_marks.2.1 19 = .ok (.iaload, 1) := by decide +kernel
theorem d_M_marks_20 : decode y_M_marks.2.1 20 = .ok (.iadd, 1) := by decide +kernel
theorem d_M_marks_21 : decode y_M_marks.2.1 21 = .ok (.iload_n 1, 1) := by decide +kernel
theorem d_M_marks_22 : decode y_M_marks.2.1 22 = .ok (.iastore, 1) := by decide +kernel
theorem d_M_marks_23 : decode y_M_marks.2.1 23 = .ok (.aload_n 0, 1) := by decide +kernel
theorem d_M_marks_24 : decode y_M_marks.2.1 24 = .ok (.getfield 69, 3) := by decide +kernel
theorem d_M_marks_27 : decode y_M_marks.2.1 27 = .ok (.aload_n 0, 1) := by decide +kernel
theorem d_M_marks_28 : decode y_M_marks.2.1 28 = .ok (.getfield 66, 3) := by decide +kernel
theorem d_M_marks_31 : decode y_M_marks.2.1 31 = .ok (.dup2, 1) := by decide +kernel
theorem d_M_marks_32 : decode y_M_marks.2.1 32 = .ok (.iaload, 1) := by decide +kernel
theorem d_M_marks_33 : decode y_M_marks.2.1 33 = .ok (.iconst 1, 1) := by decide +kernel
theorem d_M_marks_34 : decode y_M_marks.2.1 34 = .ok (.iadd, 1) := by decide +kernel
theorem d_M_marks_35 : decode y_M_marks.2.1 35 = .ok (.iastore, 1) := by decide +kernel
theorem d_M_marks_36 : decode y_M_marks.2.1 36 = .ok (.return_, 1) := by decide +kernel
theorem d_M_thing_0 : decode y_M_thing.2.1 0 = .ok (.aload_n 0, 1) := by decide +kernel
theorem d_M_thing_1 : decode y_M_thing.2.1 1 = .ok (.invokevirtual 72, 3) := by decide +kernel
theorem d_M_thing_4 : decode y_M_thing.2.1 4 = .ok (.ifCond .eq 68, 3) := by decide +kernel
theorem d_M_thing_7 : decode y_M_thing.2.1 7 = .ok (.aload_n 0, 1) := by decide +kernel
theorem d_M_thing_8 : decode y_M_thing.2.1 8 = .ok (.getfield 40, 3) := by decide +kernel
theorem d_M_thing_11 : decode y_M_thing.2.1 11 = .ok (.aload_n 0, 1) := by decide +kernel
theorem d_M_thing_12 : decode y_M_thing.2.1 12 = .ok (.getfield 43, 3) := by decide +kernel
theorem d_M_thing_15 : decode y_M_thing.2.1 15 = .ok (.iaload, 1) := by decide +kernel
theorem d_M_thing_16 : decode y_M_thing.2.1 16 = .ok (.bipush 48, 2) := by decide +kernel
theorem d_M_thing_18 : decode y_M_thing.2.1 18 = .ok (.isub, 1) := by decide +kernel
theorem d_M_thing_19 : decode y_M_thing.2.1 19 = .ok (.istore_n 1, 1) := by decide +kernel
theorem d_M_thing_20 : decode y_M_thing.2.1 20 = .ok (.aload_n 0, 1) := by decide +kernel
theorem d_M_thing_21 : decode y_M_thing.2.1 21 = .ok (.dup, 1) := by decide +kernel
theorem d_M_thing_22 : decode y_M_thing.2.1 22 = .ok (.getfield 43, 3) := by decide +kernel
theorem d_M_thing_25 : decode y_M_thing.2.1 25 = .ok (.iconst 1, 1) := by decide +kernel
theorem d_M_thing_26 : decode y_M_thing.2.1 26 = .ok (.iadd, 1) := by decide +kernel
theorem d_M_thing_27 : decode y_M_thing.2.1 27 = .ok (.putfield 43, 3) := by decide +kernel
theorem d_M_thing_30 : decode y_M_thing.2.1 30 = .ok (.aload_n 0, 1) := by decide +kernel
theorem d_M_thing_31 : decode y_M_thing.2.1 31 = .ok (.invokevirtual 72, 3) := by decide +kernel
theorem d_M_thing_34 : decode y_M_thing.2.1 34 = .ok (.ifCond .eq 31, 3) := by decide +kernel
theorem d_M_thing_37 : decode y_M_thing.2.1 37 = .ok (.bipush 10, 2) := by decide +kernel
theorem d_M_thing_39 : decode y_M_thing.2.1 39 = .ok (.iload_n 1, 1) := by decide +kernel
theorem d_M_thing_40 : decode y_M_thing.2.1 40 = .ok (.imul, 1) := by decide +kernel
theorem d_M_thing_41 : decode y_M_thing.2.1 41 = .ok (.aload_n 0, 1) := by decide +kernel
theorem d_M_thing_42 : decode y_M_thing.2.1 42 = .ok (.getfield 40, 3) := by decide +kernel
theorem d_M_thing_45 : decode y_M_thing.2.1 45 = .ok (.aload_n 0, 1) := by decide +kernel
theorem d_M_thing_46 : decode y_M_thing.2.1 46 = .ok (.getfield 43, 3) := by decide +kernel
theorem d_M_thing_49 : decode y_M_thing.2.1 49 = .ok (.iaload, 1) := by decide +kernel
theorem d_M_thing_50 : decode y_M_thing.2.1 50 = .ok (.iadd, 1) := by decide +kernel
theorem d_M_thing_51 : decode y_M_thing.2.1 51 = .ok (.bipush 48, 2) := by decide +kernel
theorem d_M_thing_53 : decode y_M_thing.2.1 53 = .ok (.isub, 1) := by decide +kernel
theorem d_M_thing_54 : decode y_M_thing.2.1 54 = .ok (.istore_n 1, 1) := by decide +kernel
theorem d_M_thing_55 : decode y_M_thing.2.1 55 = .ok (.aload_n 0, 1) := by decide +kernel
theorem d_M_thing_56 : decode y_M_thing.2.1 56 = .ok (.dup, 1) := by decide +kernel
theorem d_M_thing_57 : decode y_M_thing.2.1 57 = .ok (.getfield 43, 3) := by decide +kernel
theorem d_M_thing_60 : decode y_M_thing.2.1 60 = .ok (.iconst 1, 1) := by decide +kernel
theorem d_M_thing_61 : decode y_M_thing.2.1 61 = .ok (.iadd, 1) := by decide +kernel
theorem d_M_thing_62 : decode y_M_thing.2.1 62 = .ok (.putfield 43, 3) := by decide +kernel
theorem d_M_thing_65 : decode y_M_thing.2.1 65 = .ok (.aload_n 0, 1) := by decide +kernel
theorem d_M_thing_66 : decode y_M_thing.2.1 66 = .ok (.iload_n 1, 1) := by decide +kernel
theorem d_M_thing_67 : decode y_M_thing.2.1 67 = .ok (.invokevirtual 76, 3) := by decide +kernel
theorem d_M_thing_70 : decode y_M_thing.2.1 70 = .ok (.iconst 1, 1) := by decide +kernel
theorem d_M_thing_71 : decode y_M_thing.2.1 71 = .ok (.ireturn, 1) := by decide +kernel
theorem d_M_thing_72 : decode y_M_thing.2.1 72 = .ok (.aload_n 0, 1) := by decide +kernel
theorem d_M_thing_73 : decode y_M_thing.2.1 73 = .ok (.ldc 80, 2) := by decide +kernel
theorem d_M_thing_75 : decode y_M_thing.2.1 75 = .ok (.invokevirtual 82, 3) := by decide +kernel
theorem d_M_thing_78 : decode y_M_thing.2.1 78 = .ok (.istore_n 1, 1) := by decide +kernel
theorem d_M_thing_79 : decode y_M_thing.2.1 79 = .ok (.iload_n 1, 1) := by decide +kernel
theorem d_M_thing_80 : decode y_M_thing.2.1 80 = .ok (.ifCond .lt 24, 3) := by decide +kernel
theorem d_M_thing_83 : decode y_M_thing.2.1 83 = .ok (.aload_n 0, 1) := by decide +kernel
theorem d_M_thing_84 : decode y_M_thing.2.1 84 = .ok (.sipush 1000, 3) := by decide +kernel
theorem d_M_thing_87 : decode y_M_thing.2.1 87 = .ok (.iload_n 1, 1) := by decide +kernel
theorem d_M_thing_88 : decode y_M_thing.2.1 88 = .ok (.iadd, 1) := by decide +kernel
theorem d_M_thing_89 : decode y_M_thing.2.1 89 = .ok (.invokevirtual 76, 3) := by decide +kernel
theorem d_M_thing_92 : decode y_M_thing.2.1 92 = .ok (.aload_n 0, 1) := by decide +kernel
theorem d_M_thing_93 : decode y_M_thing.2.1 93 = .ok (.dup, 1) := by decide +kernel
theorem d_M_thing_94 : decode y_M_thing.2.1 94 = .ok (.getfield 43, 3) := by decide +kernel
theorem d_M_thing_97 : decode y_M_thing.2.1 97 = .ok (.iconst 1, 1) := by decide +kernel
theorem d_M_thing_98 : decode y_M_thing.2.1 98 = .ok (.iadd, 1) := by decide +kernel
theorem d_M_thing_99 : decode y_M_thing.2.1 99 = .ok (.putfield 43, 3) := by decide +kernel
theorem d_M_thing_102 : decode y_M_thing.2.1 102 = .ok (.iconst 1, 1) := by decide +kernel
theorem d_M_thing_103 : decode y_M_thing.2.1 103 = .ok (.ireturn, 1) := by decide +kernel
theorem d_M_thing_104 : decode y_M_thing.2.1 104 = .ok (.aload_n 0, 1) := by decide +kernel
theorem d_M_thing_105 : decode y_M_thing.2.1 105 = .ok (.ldc 86, 2) := by decide +kernel
theorem d_M_thing_107 : decode y_M_thing.2.1 107 = .ok (.invokevirtual 82, 3) := by decide +kernel
theorem d_M_thing_110 : decode y_M_thing.2.1 110 = .ok (.ifCond .lt 11, 3) := by decide +kernel
theorem d_M_thing_113 : decode y_M_thing.2.1 113 = .ok (.aload_n 0, 1) := by decide +kernel
theorem d_M_thing_114 : decode y_M_thing.2.1 114 = .ok (.getfield 88, 3) := by decide +kernel
theorem d_M_thing_117 : decode y_M_thing.2.1 117 = .ok (.iconst 4, 1) := by decide +kernel
theorem d_M_thing_118 : decode y_M_thing.2.1 118 = .ok (.if_icmp .ne 5, 3) := by decide +kernel
theorem d_M_thing_121 : decode y_M_thing.2.1 121 = .ok (.iconst 0, 1) := by decide +kernel
theorem d_M_thing_122 : decode y_M_thing.2.1 122 = .ok (.ireturn, 1) := by decide +kernel
theorem d_M_thing_123 : decode y_M_thing.2.1 123 = .ok (.aload_n 0, 1) := by decide +kernel
theorem d_M_thing_124 : decode y_M_thing.2.1 124 = .ok (.dup, 1) := by decide +kernel
theorem d_M_thing_125 : decode y_M_thing.2.1 125 = .ok (.getfield 43, 3) := by decide +kernel
theorem d_M_thing_128 : decode y_M_thing.2.1 128 = .ok (.iconst 1, 1) := by decide +kernel
theorem d_M_thing_129 : decode y_M_thing.2.1 129 = .ok (.iadd, 1) := by decide +kernel
theorem d_M_thing_130 : decode y_M_thing.2.1 130 = .ok (.putfield 43, 3) := by decide +kernel
theorem d_M_thing_133 : decode y_M_thing.2.1 133 = .ok (.aload_n 0, 1) := by decide +kernel
theorem d_M_thing_134 : decode y_M_thing.2.1 134 = .ok (.dup, 1) := by decide +kernel
theorem d_M_thing_135 : decode y_M_thing.2.1 135 = .ok (.getfield 88, 3) := by decide +kernel
theorem d_M_thing_138 : decode y_M_thing.2.1 138 = .ok (.iconst 1, 1) := by decide +kernel
theorem d_M_thing_139 : decode y_M_thing.2.1 139 = .ok (.iadd, 1) := by decide +kernel
theorem d_M_thing_140 : decode y_M_thing.2.1 140 = .ok (.putfield 88, 3) := by decide +kernel
theorem d_M_thing_143 : decode y_M_thing.2.1 143 = .ok (.aload_n 0, 1) := by decide +kernel
theorem d_M_thing_144 : decode y_M_thing.2.1 144 = .ok (.iconst 0, 1) := by decide +kernel
theorem d_M_thing_145 : decode y_M_thing.2.1 145 = .ok (.invokevirtual 91, 3) := by decide +kernel
theorem d_M_thing_148 : decode y_M_thing.2.1 148 = .ok (.ifCond .eq 12, 3) := by decide +kernel
theorem d_M_thing_151 : decode y_M_thing.2.1 151 = .ok (.aload_n 0, 1) := by decide +kernel
theorem d_M_thing_152 : decode y_M_thing.2.1 152 = .ok (.bipush 41, 2) := by decide +kernel
theorem d_M_thing_154 : decode y_M_thing.2.1 154 = .ok (.invokevirtual 95, 3) := by decide +kernel
theorem d_M_thing_157 : decode y_M_thing.2.1 157 = .ok (.ifCond .ne 5, 3) := by decide +kernel
theorem d_M_thing_160 : decode y_M_thing.2.1 160 = .ok (.iconst 0, 1) := by decide +kernel
theorem d_M_thing_161 : decode y_M_thing.2.1 161 = .ok (.ireturn, 1) := by decide +kernel
theorem d_M_thing_162 : decode y_M_thing.2.1 162 = .ok (.aload_n 0, 1) := by decide +kernel
theorem d_M_thing_163 : decode y_M_thing.2.1 163 = .ok (.dup, 1) := by decide +kernel
theorem d_M_thing_164 : decode y_M_thing.2.1 164 = .ok (.getfield 88, 3) := by decide +kernel
theorem d_M_thing_167 : decode y_M_thing.2.1 167 = .ok (.iconst 1, 1) := by decide +kernel
theorem d_M_thing_168 : decode y_M_thing.2.1 168 = .ok (.isub, 1) := by decide +kernel
theorem d_M_thing_169 : decode y_M_thing.2.1 169 = .ok (.putfield 88, 3) := by decide +kernel
theorem d_M_thing_172 : decode y_M_thing.2.1 172 = .ok (.iconst 1, 1) := by decide +kernel
theorem d_M_thing_173 : decode y_M_thing.2.1 173 = .ok (.ireturn, 1) := by decide +kernel
theorem d_M_ahead_0 : decode y_M_ahead.2.1 0 = .ok (.aload_n 0, 1) := by decide +kernel
theorem d_M_ahead_1 : decode y_M_ahead.2.1 1 = .ok (.bipush 33, 2) := by decide +kernel
theorem d_M_ahead_3 : decode y_M_ahead.2.1 3 = .ok (.invokevirtual 95, 3) := by decide +kernel
theorem d_M_ahead_6 : decode y_M_ahead.2.1 6 = .ok (.ifCond .ne 8, 3) := by decide +kernel
theorem d_M_ahead_9 : decode y_M_ahead.2.1 9 = .ok (.aload_n 0, 1) := by decide +kernel
theorem d_M_ahead_10 : decode y_M_ahead.2.1 10 = .ok (.invokevirtual 98, 3) := by decide +kernel
theorem d_M_ahead_13 : decode y_M_ahead.2.1 13 = .ok (.ireturn, 1) := by decide +kernel
theorem d_M_ahead_14 : decode y_M_ahead.2.1 14 = .ok (.aload_n 0, 1) := by decide +kernel
theorem d_M_ahead_15 : decode y_M_ahead.2.1 15 = .ok (.invokevirtual 101, 3) := by decide +kernel
theorem d_M_ahead_18 : decode y_M_ahead.2.1 18 = .ok (.istore_n 1, 1) := by decide +kernel
theorem d_M_ahead_19 : decode y_M_ahead.2.1 19 = .ok (.iload_n 1, 1) := by decide +kernel
theorem d_M_ahead_20 : decode y_M_ahead.2.1 20 = .ok (.ifCond .eq 10, 3) := by decide +kernel
theorem d_M_ahead_23 : decode y_M_ahead.2.1 23 = .ok (.aload_n 0, 1) := by decide +kernel
theorem d_M_ahead_24 : decode y_M_ahead.2.1 24 = .ok (.sipush 2033, 3) := by decide +kernel
theorem d_M_ahead_27 : decode y_M_ahead.2.1 27 = .ok (.invokevirtual 76, 3) := by decide +kernel
theorem d_M_ahead_30 : decode y_M_ahead.2.1 30 = .ok (.iload_n 1, 1) := by decide +kernel
theorem d_M_ahead_31 : decode y_M_ahead.2.1 31 = .ok (.ireturn, 1) := by decide +kernel
theorem d_M_ranked_0 : decode y_M_ranked.2.1 0 = .ok (.iload_n 1, 1) := by decide +kernel
theorem d_M_ranked_1 : decode y_M_ranked.2.1 1 = .ok (.iconst 4, 1) := by decide +kernel
theorem d_M_ranked_2 : decode y_M_ranked.2.1 2 = .ok (.if_icmp .ne 8, 3) := by decide +kernel
theorem d_M_ranked_5 : decode y_M_ranked.2.1 5 = .ok (.aload_n 0, 1) := by decide +kernel
theorem d_M_ranked_6 : decode y_M_ranked.2.1 6 = .ok (.invokevirtual 101, 3) := by decide +kernel
theorem d_M_ranked_9 : decode y_M_ranked.2.1 9 = .ok (.ireturn, 1) := by decide +kernel
theorem d_M_ranked_10 : decode y_M_ranked.2.1 10 = .ok (.iload_n 1, 1) := by decide +kernel
theorem d_M_ranked_11 : decode y_M_ranked.2.1 11 = .ok (.ifCond .ne 8, 3) := by decide +kernel
theorem d_M_ranked_14 : decode y_M_ranked.2.1 14 = .ok (.ldc 104, 2) := by decide +kernel
theorem d_M_ranked_16 : decode y_M_ranked.2.1 16 = .ok (.goto 25, 3) := by decide +kernel
theorem d_M_ranked_19 : decode y_M_ranked.2.1 19 = .ok (.iload_n 1, 1) := by decide +kernel
theorem d_M_ranked_20 : decode y_M_ranked.2.1 20 = .ok (.iconst 1, 1) := by decide +kernel
theorem d_M_ranked_21 : decode y_M_ranked.2.1 21 = .ok (.if_icmp .ne 8, 3) := by decide +kernel
theorem d_M_ranked_24 : decode y_M_ranked.2.1 24 = .ok (.ldc 106, 2) := by decide +kernel
theorem d_M_ranked_26 : decode y_M_ranked.2.1 26 = .ok (.goto 15, 3) := by decide +kernel
theorem d_M_ranked_29 : decode y_M_ranked.2.1 29 = .ok (.iload_n 1, 1) := by decide +kernel
theorem d_M_ranked_30 : decode y_M_ranked.2.1 30 = .ok (.iconst 2, 1) := by decide +kernel
theorem d_M_ranked_31 : decode y_M_ranked.2.1 31 = .ok (.if_icmp .ne 8, 3) := by decide +kernel
theorem d_M_ranked_34 : decode y_M_ranked.2.1 34 = .ok (.ldc 108, 2) := by decide +kernel
theorem d_M_ranked_36 : decode y_M_ranked.2.1 36 = .ok (.goto 5, 3) := by decide +kernel
theorem d_M_ranked_39 : decode y_M_ranked.2.1 39 = .ok (.ldc 110, 2) := by decide +kernel
theorem d_M_ranked_41 : decode y_M_ranked.2.1 41 = .ok (.astore_n 2, 1) := by decide +kernel
theorem d_M_ranked_42 : decode y_M_ranked.2.1 42 = .ok (.aload_n 0, 1) := by decide +kernel
theorem d_M_ranked_43 : decode y_M_ranked.2.1 43 = .ok (.iload_n 1, 1) := by decide +kernel
theorem d_M_ranked_44 : decode y_M_ranked.2.1 44 = .ok (.iconst 1, 1) := by decide +kernel
theorem d_M_ranked_45 : decode y_M_ranked.2.1 45 = .ok (.iadd, 1) := by decide +kernel
theorem d_M_ranked_46 : decode y_M_ranked.2.1 46 = .ok (.invokevirtual 91, 3) := by decide +kernel
theorem d_M_ranked_49 : decode y_M_ranked.2.1 49 = .ok (.istore_n 3, 1) := by decide +kernel
theorem d_M_ranked_50 : decode y_M_ranked.2.1 50 = .ok (.iconst 1, 1) := by decide +kernel
theorem d_M_ranked_51 : decode y_M_ranked.2.1 51 = .ok (.istore 4, 2) := by decide +kernel
theorem d_M_ranked_53 : decode y_M_ranked.2.1 53 = .ok (.iload_n 3, 1) := by decide +kernel
theorem d_M_ranked_54 : decode y_M_ranked.2.1 54 = .ok (.ifCond .eq 74, 3) := by decide +kernel
theorem d_M_ranked_57 : decode y_M_ranked.2.1 57 = .ok (.iload 4, 2) := by decide +kernel
theorem d_M_ranked_59 : decode y_M_ranked.2.1 59 = .ok (.ifCond .eq 69, 3) := by decide +kernel
theorem d_M_ranked_62 : decode y_M_ranked.2.1 62 = .ok (.aload_n 0, 1) := by decide +kernel
theorem d_M_ranked_63 : decode y_M_ranked.2.1 63 = .ok (.aload_n 2, 1) := by decide +kernel
theorem d_M_ranked_64 : decode y_M_ranked.2.1 64 = .ok (.invokevirtual 82, 3) := by decide +kernel
theorem d_M_ranked_67 : decode y_M_ranked.2.1 67 = .ok (.ifCond .lt 61, 3) := by decide +kernel
theorem d_M_ranked_70 : decode y_M_ranked.2.1 70 = .ok (.aload_n 0, 1) := by decide +kernel
theorem d_M_ranked_71 : decode y_M_ranked.2.1 71 = .ok (.getfield 40, 3) := by decide +kernel
theorem d_M_ranked_74 : decode y_M_ranked.2.1 74 = .ok (.aload_n 0, 1) := by decide +kernel
theorem d_M_ranked_75 : decode y_M_ranked.2.1 75 = .ok (.getfield 43, 3) := by decide +kernel
theorem d_M_ranked_78 : decode y_M_ranked.2.1 78 = .ok (.iaload, 1) := by decide +kernel
theorem d_M_ranked_79 : decode y_M_ranked.2.1 79 = .ok (.istore 5, 2) := by decide +kernel
theorem d_M_ranked_81 : decode y_M_ranked.2.1 81 = .ok (.aload_n 0, 1) := by decide +kernel
theorem d_M_ranked_82 : decode y_M_ranked.2.1 82 = .ok (.dup, 1) := by decide +kernel
theorem d_M_ranked_83 : decode y_M_ranked.2.1 83 = .ok (.getfield 43, 3) := by decide +kernel
theorem d_M_ranked_86 : decode y_M_ranked.2.1 86 = .ok (.iconst 1, 1) := by decide +kernel
theorem d_M_ranked_87 : decode y_M_ranked.2.1 87 = .ok (.iadd, 1) := by decide +kernel
theorem d_M_ranked_88 : decode y_M_ranked.2.1 88 = .ok (.putfield 43, 3) := by decide +kernel
theorem d_M_ranked_91 : decode y_M_ranked.2.1 91 = .ok (.aload_n 0, 1) := by decide +kernel
theorem d_M_ranked_92 : decode y_M_ranked.2.1 92 = .ok (.iload_n 1, 1) := by decide +kernel
theorem d_M_ranked_93 : decode y_M_ranked.2.1 93 = .ok (.iconst 1, 1) := by decide +kernel
theorem d_M_ranked_94 : decode y_M_ranked.2.1 94 = .ok (.iadd, 1) := by decide +kernel
theorem d_M_ranked_95 : decode y_M_ranked.2.1 95 = .ok (.invokevirtual 91, 3) := by decide +kernel
theorem d_M_ranked_98 : decode y_M_ranked.2.1 98 = .ok (.istore_n 3, 1) := by decide +kernel
theorem d_M_ranked_99 : decode y_M_ranked.2.1 99 = .ok (.iload_n 3, 1) := by decide +kernel
theorem d_M_ranked_100 : decode y_M_ranked.2.1 100 = .ok (.ifCond .eq 13, 3) := by decide +kernel
theorem d_M_ranked_103 : decode y_M_ranked.2.1 103 = .ok (.aload_n 0, 1) := by decide +kernel
theorem d_M_ranked_104 : decode y_M_ranked.2.1 104 = .ok (.sipush 2000, 3) := by decide +kernel
theorem d_M_ranked_107 : decode y_M_ranked.2.1 107 = .ok (.iload 5, 2) := by decide +kernel
theorem d_M_ranked_109 : decode y_M_ranked.2.1 109 = .ok (.iadd, 1) := by decide +kernel
theorem d_M_ranked_110 : decode y_M_ranked.2.1 110 = .ok (.invokevirtual 76, 3) := by decide +kernel
theorem d_M_ranked_113 : decode y_M_ranked.2.1 113 = .ok (.iload_n 1, 1) := by decide +kernel
theorem d_M_ranked_114 : decode y_M_ranked.2.1 114 = .ok (.iconst 2, 1) := by decide +kernel
theorem d_M_ranked_115 : decode y_M_ranked.2.1 115 = .ok (.if_icmp .eq 7, 3) := by decide +kernel
theorem d_M_ranked_118 : decode y_M_ranked.2.1 118 = .ok (.iconst 1, 1) := by decide +kernel
theorem d_M_ranked_119 : decode y_M_ranked.2.1 119 = .ok (.goto 4, 3) := by decide +kernel
theorem d_M_ranked_122 : decode y_M_ranked.2.1 122 = .ok (.iconst 0, 1) := by decide +kernel
theorem d_M_ranked_123 : decode y_M_ranked.2.1 123 = .ok (.istore 4, 2) := by decide +kernel
theorem d_M_ranked_125 : decode y_M_ranked.2.1 125 = .ok (.goto (-72), 3) := by decide +kernel
theorem d_M_ranked_128 : decode y_M_ranked.2.1 128 = .ok (.iload_n 3, 1) := by decide +kernel
theorem d_M_ranked_129 : decode y_M_ranked.2.1 129 = .ok (.ireturn, 1) := by decide +kernel
theorem d_M_begins_0 : decode y_M_begins.2.1 0 = .ok (.aload_n 0, 1) := by decide +kernel
theorem d_M_begins_1 : decode y_M_begins.2.1 1 = .ok (.getfield 37, 3) := by decide +kernel
theorem d_M_begins_4 : decode y_M_begins.2.1 4 = .ok (.istore_n 2, 1) := by decide +kernel
theorem d_M_begins_5 : decode y_M_begins.2.1 5 = .ok (.aload_n 0, 1) := by decide +kernel
theorem d_M_begins_6 : decode y_M_begins.2.1 6 = .ok (.iconst 0, 1) := by decide +kernel
theorem d_M_begins_7 : decode y_M_begins.2.1 7 = .ok (.putfield 37, 3) := by decide +kernel
theorem d_M_begins_10 : decode y_M_begins.2.1 10 = .ok (.aload_n 0, 1) := by decide +kernel
theorem d_M_begins_11 : decode y_M_begins.2.1 11 = .ok (.iconst 0, 1) := by decide +kernel
theorem d_M_begins_12 : decode y_M_begins.2.1 12 = .ok (.putfield 43, 3) := by decide +kernel
theorem d_M_begins_15 : decode y_M_begins.2.1 15 = .ok (.aload_n 0, 1) := by decide +kernel
theorem d_M_begins_16 : decode y_M_begins.2.1 16 = .ok (.iload_n 2, 1) := by decide +kernel
theorem d_M_begins_17 : decode y_M_begins.2.1 17 = .ok (.iload_n 1, 1) := by decide +kernel
theorem d_M_begins_18 : decode y_M_begins.2.1 18 = .ok (.invokestatic 112, 3) := by decide +kernel
theorem d_M_begins_21 : decode y_M_begins.2.1 21 = .ok (.putfield 46, 3) := by decide +kernel
theorem d_M_begins_24 : decode y_M_begins.2.1 24 = .ok (.aload_n 0, 1) := by decide +kernel
theorem d_M_begins_25 : decode y_M_begins.2.1 25 = .ok (.getfield 69, 3) := by decide +kernel
theorem d_M_begins_28 : decode y_M_begins.2.1 28 = .ok (.bipush 25, 2) := by decide +kernel
theorem d_M_begins_30 : decode y_M_begins.2.1 30 = .ok (.iconst 0, 1) := by decide +kernel
theorem d_M_begins_31 : decode y_M_begins.2.1 31 = .ok (.iastore, 1) := by decide +kernel
theorem d_M_begins_32 : decode y_M_begins.2.1 32 = .ok (.aload_n 0, 1) := by decide +kernel
theorem d_M_begins_33 : decode y_M_begins.2.1 33 = .ok (.getfield 69, 3) := by decide +kernel
theorem d_M_begins_36 : decode y_M_begins.2.1 36 = .ok (.bipush 26, 2) := by decide +kernel
theorem d_M_begins_38 : decode y_M_begins.2.1 38 = .ok (.iconst 0, 1) := by decide +kernel
theorem d_M_begins_39 : decode y_M_begins.2.1 39 = .ok (.iastore, 1) := by decide +kernel
theorem d_M_begins_40 : decode y_M_begins.2.1 40 = .ok (.iload_n 2, 1) := by decide +kernel
theorem d_M_begins_41 : decode y_M_begins.2.1 41 = .ok (.ireturn, 1) := by decide +kernel
theorem d_M_reads_0 : decode y_M_reads.2.1 0 = .ok (.aload_n 0, 1) := by decide +kernel
theorem d_M_reads_1 : decode y_M_reads.2.1 1 = .ok (.iload_n 1, 1) := by decide +kernel
theorem d_M_reads_2 : decode y_M_reads.2.1 2 = .ok (.putfield 66, 3) := by decide +kernel
theorem d_M_reads_5 : decode y_M_reads.2.1 5 = .ok (.aload_n 0, 1) := by decide +kernel
theorem d_M_reads_6 : decode y_M_reads.2.1 6 = .ok (.iconst 0, 1) := by decide +kernel
theorem d_M_reads_7 : decode y_M_reads.2.1 7 = .ok (.putfield 88, 3) := by decide +kernel
theorem d_M_reads_10 : decode y_M_reads.2.1 10 = .ok (.aload_n 0, 1) := by decide +kernel
theorem d_M_reads_11 : decode y_M_reads.2.1 11 = .ok (.iconst 0, 1) := by decide +kernel
theorem d_M_reads_12 : decode y_M_reads.2.1 12 = .ok (.invokevirtual 91, 3) := by decide +kernel
theorem d_M_reads_15 : decode y_M_reads.2.1 15 = .ok (.ireturn, 1) := by decide +kernel
theorem d_M_faultOf_0 : decode y_M_faultOf.2.1 0 = .ok (.iload_n 3, 1) := by decide +kernel
theorem d_M_faultOf_1 : decode y_M_faultOf.2.1 1 = .ok (.ifCond .eq 18, 3) := by decide +kernel
theorem d_M_faultOf_4 : decode y_M_faultOf.2.1 4 = .ok (.aload_n 0, 1) := by decide +kernel
theorem d_M_faultOf_5 : decode y_M_faultOf.2.1 5 = .ok (.getfield 43, 3) := by decide +kernel
theorem d_M_faultOf_8 : decode y_M_faultOf.2.1 8 = .ok (.aload_n 0, 1) := by decide +kernel
theorem d_M_faultOf_9 : decode y_M_faultOf.2.1 9 = .ok (.getfield 46, 3) := by decide +kernel
theorem d_M_faultOf_12 : decode y_M_faultOf.2.1 12 = .ok (.if_icmp .ne 7, 3) := by decide +kernel
theorem d_M_faultOf_15 : decode y_M_faultOf.2.1 15 = .ok (.iconst 1, 1) := by decide +kernel
theorem d_M_faultOf_16 : decode y_M_faultOf.2.1 16 = .ok (.goto 4, 3) := by decide +kernel
theorem d_M_faultOf_19 : decode y_M_faultOf.2.1 19 = .ok (.iconst 0, 1) := by decide +kernel
theorem d_M_faultOf_20 : decode y_M_faultOf.2.1 20 = .ok (.istore 4, 2) := by decide +kernel
theorem d_M_faultOf_22 : decode y_M_faultOf.2.1 22 = .ok (.iload_n 1, 1) := by decide +kernel
theorem d_M_faultOf_23 : decode y_M_faultOf.2.1 23 = .ok (.iload_n 2, 1) := by decide +kernel
theorem d_M_faultOf_24 : decode y_M_faultOf.2.1 24 = .ok (.if_icmp .le 20, 3) := by decide +kernel
theorem d_M_faultOf_27 : decode y_M_faultOf.2.1 27 = .ok (.iload 4, 2) := by decide +kernel
theorem d_M_faultOf_29 : decode y_M_faultOf.2.1 29 = .ok (.ifCond .ne 11, 3) := by decide +kernel
theorem d_M_faultOf_32 : decode y_M_faultOf.2.1 32 = .ok (.aload_n 0, 1) := by decide +kernel
theorem d_M_faultOf_33 : decode y_M_faultOf.2.1 33 = .ok (.getfield 43, 3) := by decide +kernel
theorem d_M_faultOf_36 : decode y_M_faultOf.2.1 36 = .ok (.iload_n 2, 1) := by decide +kernel
theorem d_M_faultOf_37 : decode y_M_faultOf.2.1 37 = .ok (.if_icmp .lt 7, 3) := by decide +kernel
theorem d_M_faultOf_40 : decode y_M_faultOf.2.1 40 = .ok (.iconst (-1), 1) := by decide +kernel
theorem d_M_faultOf_41 : decode y_M_faultOf.2.1 41 = .ok (.iload_n 2, 1) := by decide +kernel
theorem d_M_faultOf_42 : decode y_M_faultOf.2.1 42 = .ok (.isub, 1) := by decide +kernel
theorem d_M_faultOf_43 : decode y_M_faultOf.2.1 43 = .ok (.ireturn, 1) := by decide +kernel
theorem d_M_faultOf_44 : decode y_M_faultOf.2.1 44 = .ok (.iload 4, 2) := by decide +kernel
theorem d_M_faultOf_46 : decode y_M_faultOf.2.1 46 = .ok (.ifCond .eq 7, 3) := by decide +kernel
theorem d_M_faultOf_49 : decode y_M_faultOf.2.1 49 = .ok (.iconst 0, 1) := by decide +kernel
theorem d_M_faultOf_50 : decode y_M_faultOf.2.1 50 = .ok (.goto 9, 3) := by decide +kernel
theorem d_M_faultOf_53 : decode y_M_faultOf.2.1 53 = .ok (.iconst (-1), 1) := by decide +kernel
theorem d_M_faultOf_54 : decode y_M_faultOf.2.1 54 = .ok (.aload_n 0, 1) := by decide +kernel
theorem d_M_faultOf_55 : decode y_M_faultOf.2.1 55 = .ok (.getfield 43, 3) := by decide +kernel
theorem d_M_faultOf_58 : decode y_M_faultOf.2.1 58 = .ok (.isub, 1) := by decide +kernel
theorem d_M_faultOf_59 : decode y_M_faultOf.2.1 59 = .ok (.ireturn, 1) := by decide +kernel
theorem d_M_lays_0 : decode y_M_lays.2.1 0 = .ok (.aload_n 0, 1) := by decide +kernel
theorem d_M_lays_1 : decode y_M_lays.2.1 1 = .ok (.getfield 69, 3) := by decide +kernel
theorem d_M_lays_4 : decode y_M_lays.2.1 4 = .ok (.iload_n 2, 1) := by decide +kernel
theorem d_M_lays_5 : decode y_M_lays.2.1 5 = .ok (.aload_n 0, 1) := by decide +kernel
theorem d_M_lays_6 : decode y_M_lays.2.1 6 = .ok (.getfield 69, 3) := by decide +kernel
theorem d_M_lays_9 : decode y_M_lays.2.1 9 = .ok (.iload_n 1, 1) := by decide +kernel
theorem d_M_lays_10 : decode y_M_lays.2.1 10 = .ok (.iaload, 1) := by decide +kernel
theorem d_M_lays_11 : decode y_M_lays.2.1 11 = .ok (.iastore, 1) := by decide +kernel
theorem d_M_lays_12 : decode y_M_lays.2.1 12 = .ok (.iconst 0, 1) := by decide +kernel
theorem d_M_lays_13 : decode y_M_lays.2.1 13 = .ok (.istore_n 3, 1) := by decide +kernel
theorem d_M_lays_14 : decode y_M_lays.2.1 14 = .ok (.iload_n 3, 1) := by decide +kernel
theorem d_M_lays_15 : decode y_M_lays.2.1 15 = .ok (.bipush 64, 2) := by decide +kernel
theorem d_M_lays_17 : decode y_M_lays.2.1 17 = .ok (.if_icmp .ge 31, 3) := by decide +kernel
theorem d_M_lays_20 : decode y_M_lays.2.1 20 = .ok (.aload_n 0, 1) := by decide +kernel
theorem d_M_lays_21 : decode y_M_lays.2.1 21 = .ok (.getfield 63, 3) := by decide +kernel
theorem d_M_lays_24 : decode y_M_lays.2.1 24 = .ok (.bipush 64, 2) := by decide +kernel
theorem d_M_lays_26 : decode y_M_lays.2.1 26 = .ok (.iload_n 2, 1) := by decide +kernel
theorem d_M_lays_27 : decode y_M_lays.2.1 27 = .ok (.imul, 1) := by decide +kernel
theorem d_M_lays_28 : decode y_M_lays.2.1 28 = .ok (.iload_n 3, 1) := by decide +kernel
theorem d_M_lays_29 : decode y_M_lays.2.1 29 = .ok (.iadd, 1) := by decide +kernel
theorem d_M_lays_30 : decode y_M_lays.2.1 30 = .ok (.aload_n 0, 1) := by decide +kernel
theorem d_M_lays_31 : decode y_M_lays.2.1 31 = .ok (.getfield 63, 3) := by decide +kernel
theorem d_M_lays_34 : decode y_M_lays.2.1 34 = .ok (.bipush 64, 2) := by decide +kernel
theorem d_M_lays_36 : decode y_M_lays.2.1 36 = .ok (.iload_n 1, 1) := by decide +kernel
theorem d_M_lays_37 : decode y_M_lays.2.1 37 = .ok (.imul, 1) := by decide +kernel
theorem d_M_lays_38 : decode y_M_lays.2.1 38 = .ok (.iload_n 3, 1) := by decide +kernel
theorem d_M_lays_39 : decode y_M_lays.2.1 39 = .ok (.iadd, 1) := by decide +kernel
theorem d_M_lays_40 : decode y_M_lays.2.1 40 = .ok (.iaload, 1) := by decide +kernel
theorem d_M_lays_41 : decode y_M_lays.2.1 41 = .ok (.iastore, 1) := by decide +kernel
theorem d_M_lays_42 : decode y_M_lays.2.1 42 = .ok (.iinc 3 1, 3) := by decide +kernel
theorem d_M_lays_45 : decode y_M_lays.2.1 45 = .ok (.goto (-31), 3) := by decide +kernel
theorem d_M_lays_48 : decode y_M_lays.2.1 48 = .ok (.return_, 1) := by decide +kernel
theorem d_M_acted_0 : decode y_M_acted.2.1 0 = .ok (.iload_n 1, 1) := by decide +kernel
theorem d_M_acted_1 : decode y_M_acted.2.1 1 = .ok (.lookupswitch 126 #[(38, 109), (43, 59), (45, 63), (60, 67), (61, 95), (62, 81)], 59) := by decide +kernel
theorem d_M_acted_60 : decode y_M_acted.2.1 60 = .ok (.iload_n 2, 1) := by decide +kernel
theorem d_M_acted_61 : decode y_M_acted.2.1 61 = .ok (.iload_n 3, 1) := by decide +kernel
theorem d_M_acted_62 : decode y_M_acted.2.1 62 = .ok (.iadd, 1) := by decide +kernel
theorem d_M_acted_63 : decode y_M_acted.2.1 63 = .ok (.ireturn, 1) := by decide +kernel
theorem d_M_acted_64 : decode y_M_acted.2.1 64 = .ok (.iload_n 2, 1) := by decide +kernel
theorem d_M_acted_65 : decode y_M_acted.2.1 65 = .ok (.iload_n 3, 1) := by decide +kernel
theorem d_M_acted_66 : decode y_M_acted.2.1 66 = .ok (.isub, 1) := by decide +kernel
theorem d_M_acted_67 : decode y_M_acted.2.1 67 = .ok (.ireturn, 1) := by decide +kernel
theorem d_M_acted_68 : decode y_M_acted.2.1 68 = .ok (.iload_n 2, 1) := by decide +kernel
theorem d_M_acted_69 : decode y_M_acted.2.1 69 = .ok (.iload_n 3, 1) := by decide +kernel
theorem d_M_acted_70 : decode y_M_acted.2.1 70 = .ok (.if_icmp .ge 7, 3) := by decide +kernel
theorem d_M_acted_73 : decode y_M_acted.2.1 73 = .ok (.iconst 1, 1) := by decide +kernel
theorem d_M_acted_74 : decode y_M_acted.2.1 74 = .ok (.goto 4, 3) := by decide +kernel
theorem d_M_acted_77 : decode y_M_acted.2.1 77 = .ok (.iconst 0, 1) := by decide +kernel
theorem d_M_acted_78 : decode y_M_acted.2.1 78 = .ok (.invokestatic 33, 3) := by decide +kernel
theorem d_M_acted_81 : decode y_M_acted.2.1 81 = .ok (.ireturn, 1) := by decide +kernel
theorem d_M_acted_82 : decode y_M_acted.2.1 82 = .ok (.iload_n 2, 1) := by decide +kernel
theorem d_M_acted_83 : decode y_M_acted.2.1 83 = .ok (.iload_n 3, 1) := by decide +kernel
theorem d_M_acted_84 : decode y_M_acted.2.1 84 = .ok (.if_icmp .le 7, 3) := by decide +kernel
theorem d_M_acted_87 : decode y_M_acted.2.1 87 = .ok (.iconst 1, 1) := by decide +kernel
theorem d_M_acted_88 : decode y_M_acted.2.1 88 = .ok (.goto 4, 3) := by decide +kernel
theorem d_M_acted_91 : decode y_M_acted.2.1 91 = .ok (.iconst 0, 1) := by decide +kernel
theorem d_M_acted_92 : decode y_M_acted.2.1 92 = .ok (.invokestatic 33, 3) := by decide +kernel
theorem d_M_acted_95 : decode y_M_acted.2.1 95 = .ok (.ireturn, 1) := by decide +kernel
theorem d_M_acted_96 : decode y_M_acted.2.1 96 = .ok (.iload_n 2, 1) := by decide +kernel
theorem d_M_acted_97 : decode y_M_acted.2.1 97 = .ok (.iload_n 3, 1) := by decide +kernel
theorem d_M_acted_98 : decode y_M_acted.2.1 98 = .ok (.if_icmp .ne 7, 3) := by decide +kernel
theorem d_M_acted_101 : decode y_M_acted.2.1 101 = .ok (.iconst 1, 1) := by decide +kernel
theorem d_M_acted_102 : decode y_M_acted.2.1 102 = .ok (.goto 4, 3) := by decide +kernel
theorem d_M_acted_105 : decode y_M_acted.2.1 105 = .ok (.iconst 0, 1) := by decide +kernel
theorem d_M_acted_106 : decode y_M_acted.2.1 106 = .ok (.invokestatic 33, 3) := by decide +kernel
theorem d_M_acted_109 : decode y_M_acted.2.1 109 = .ok (.ireturn, 1) := by decide +kernel
theorem d_M_acted_110 : decode y_M_acted.2.1 110 = .ok (.iload_n 2, 1) := by decide +kernel
theorem d_M_acted_111 : decode y_M_acted.2.1 111 = .ok (.ifCond .eq 11, 3) := by decide +kernel
theorem d_M_acted_114 : decode y_M_acted.2.1 114 = .ok (.iload_n 3, 1) := by decide +kernel
theorem d_M_acted_115 : decode y_M_acted.2.1 115 = .ok (.ifCond .eq 7, 3) := by decide +kernel
theorem d_M_acted_118 : decode y_M_acted.2.1 118 = .ok (.iconst 1, 1) := by decide +kernel
theorem d_M_acted_119 : decode y_M_acted.2.1 119 = .ok (.goto 4, 3) := by decide +kernel
theorem d_M_acted_122 : decode y_M_acted.2.1 122 = .ok (.iconst 0, 1) := by decide +kernel
theorem d_M_acted_123 : decode y_M_acted.2.1 123 = .ok (.invokestatic 33, 3) := by decide +kernel
theorem d_M_acted_126 : decode y_M_acted.2.1 126 = .ok (.ireturn, 1) := by decide +kernel
theorem d_M_acted_127 : decode y_M_acted.2.1 127 = .ok (.iload_n 2, 1) := by decide +kernel
theorem d_M_acted_128 : decode y_M_acted.2.1 128 = .ok (.ifCond .ne 7, 3) := by decide +kernel
theorem d_M_acted_131 : decode y_M_acted.2.1 131 = .ok (.iload_n 3, 1) := by decide +kernel
theorem d_M_acted_132 : decode y_M_acted.2.1 132 = .ok (.ifCond .eq 7, 3) := by decide +kernel
theorem d_M_acted_135 : decode y_M_acted.2.1 135 = .ok (.iconst 1, 1) := by decide +kernel
theorem d_M_acted_136 : decode y_M_acted.2.1 136 = .ok (.goto 4, 3) := by decide +kernel
theorem d_M_acted_139 : decode y_M_acted.2.1 139 = .ok (.iconst 0, 1) := by decide +kernel
theorem d_M_acted_140 : decode y_M_acted.2.1 140 = .ok (.invokestatic 33, 3) := by decide +kernel
theorem d_M_acted_143 : decode y_M_acted.2.1 143 = .ok (.ireturn, 1) := by decide +kernel
theorem d_M_signOf_0 : decode y_M_signOf.2.1 0 = .ok (.iload_n 1, 1) := by decide +kernel
theorem d_M_signOf_1 : decode y_M_signOf.2.1 1 = .ok (.bipush 12, 2) := by decide +kernel
theorem d_M_signOf_3 : decode y_M_signOf.2.1 3 = .ok (.if_icmp .ge 14, 3) := by decide +kernel
theorem d_M_signOf_6 : decode y_M_signOf.2.1 6 = .ok (.iload_n 2, 1) := by decide +kernel
theorem d_M_signOf_7 : decode y_M_signOf.2.1 7 = .ok (.iload_n 1, 1) := by decide +kernel
theorem d_M_signOf_8 : decode y_M_signOf.2.1 8 = .ok (.invokestatic 29, 3) := by decide +kernel
theorem d_M_signOf_11 : decode y_M_signOf.2.1 11 = .ok (.invokestatic 33, 3) := by decide +kernel
theorem d_M_signOf_14 : decode y_M_signOf.2.1 14 = .ok (.goto 28, 3) := by decide +kernel
theorem d_M_signOf_17 : decode y_M_signOf.2.1 17 = .ok (.iload_n 1, 1) := by decide +kernel
theorem d_M_signOf_18 : decode y_M_signOf.2.1 18 = .ok (.bipush 12, 2) := by decide +kernel
theorem d_M_signOf_20 : decode y_M_signOf.2.1 20 = .ok (.if_icmp .ne 10, 3) := by decide +kernel
theorem d_M_signOf_23 : decode y_M_signOf.2.1 23 = .ok (.iload_n 2, 1) := by decide +kernel
theorem d_M_signOf_24 : decode y_M_signOf.2.1 24 = .ok (.invokestatic 118, 3) := by decide +kernel
theorem d_M_signOf_27 : decode y_M_signOf.2.1 27 = .ok (.goto 15, 3) := by decide +kernel
theorem d_M_signOf_30 : decode y_M_signOf.2.1 30 = .ok (.iload_n 1, 1) := by decide +kernel
theorem d_M_signOf_31 : decode y_M_signOf.2.1 31 = .ok (.bipush 13, 2) := by decide +kernel
theorem d_M_signOf_33 : decode y_M_signOf.2.1 33 = .ok (.if_icmp .ne 7, 3) := by decide +kernel
theorem d_M_signOf_36 : decode y_M_signOf.2.1 36 = .ok (.iload_n 3, 1) := by decide +kernel
theorem d_M_signOf_37 : decode y_M_signOf.2.1 37 = .ok (.goto 5, 3) := by decide +kernel
theorem d_M_signOf_40 : decode y_M_signOf.2.1 40 = .ok (.iload 4, 2) := by decide +kernel
theorem d_M_signOf_42 : decode y_M_signOf.2.1 42 = .ok (.ireturn, 1) := by decide +kernel
theorem d_M_works_0 : decode y_M_works.2.1 0 = .ok (.iconst 0, 1) := by decide +kernel
theorem d_M_works_1 : decode y_M_works.2.1 1 = .ok (.istore 5, 2) := by decide +kernel
theorem d_M_works_3 : decode y_M_works.2.1 3 = .ok (.iconst 0, 1) := by decide +kernel
theorem d_M_works_4 : decode y_M_works.2.1 4 = .ok (.istore 6, 2) := by decide +kernel
theorem d_M_works_6 : decode y_M_works.2.1 6 = .ok (.iload 6, 2) := by decide +kernel
theorem d_M_works_8 : decode y_M_works.2.1 8 = .ok (.aload_n 0, 1) := by decide +kernel
theorem d_M_works_9 : decode y_M_works.2.1 9 = .ok (.getfield 69, 3) := by decide +kernel
theorem d_M_works_12 : decode y_M_works.2.1 12 = .ok (.iload_n 1, 1) := by decide +kernel
theorem d_M_works_13 : decode y_M_works.2.1 13 = .ok (.iaload, 1) := by decide +kernel
theorem d_M_works_14 : decode y_M_works.2.1 14 = .ok (.if_icmp .ge 159, 3) := by decide +kernel
theorem d_M_works_17 : decode y_M_works.2.1 17 = .ok (.aload_n 0, 1) := by decide +kernel
theorem d_M_works_18 : decode y_M_works.2.1 18 = .ok (.getfield 63, 3) := by decide +kernel
theorem d_M_works_21 : decode y_M_works.2.1 21 = .ok (.bipush 64, 2) := by decide +kernel
theorem d_M_works_23 : decode y_M_works.2.1 23 = .ok (.iload_n 1, 1) := by decide +kernel
theorem d_M_works_24 : decode y_M_works.2.1 24 = .ok (.imul, 1) := by decide +kernel
theorem d_M_works_25 : decode y_M_works.2.1 25 = .ok (.iload 6, 2) := by decide +kernel
theorem d_M_works_27 : decode y_M_works.2.1 27 = .ok (.iadd, 1) := by decide +kernel
theorem d_M_works_28 : decode y_M_works.2.1 28 = .ok (.iaload, 1) := by decide +kernel
theorem d_M_works_29 : decode y_M_works.2.1 29 = .ok (.istore 7, 2) := by decide +kernel
theorem d_M_works_31 : decode y_M_works.2.1 31 = .ok (.iload 7, 2) := by decide +kernel
theorem d_M_works_33 : decode y_M_works.2.1 33 = .ok (.sipush 1000, 3) := by decide +kernel
theorem d_M_works_36 : decode y_M_works.2.1 36 = .ok (.if_icmp .ge 18, 3) := by decide +kernel
theorem d_M_works_39 : decode y_M_works.2.1 39 = .ok (.aload_n 0, 1) := by decide +kernel
theorem d_M_works_40 : decode y_M_works.2.1 40 = .ok (.getfield 124, 3) := by decide +kernel
theorem d_M_works_43 : decode y_M_works.2.1 43 = .ok (.iload 5, 2) := by decide +kernel
theorem d_M_works_45 : decode y_M_works.2.1 45 = .ok (.iload 7, 2) := by decide +kernel
theorem d_M_works_47 : decode y_M_works.2.1 47 = .ok (.iastore, 1) := by decide +kernel
theorem d_M_works_48 : decode y_M_works.2.1 48 = .ok (.iinc 5 1, 3) := by decide +kernel
theorem d_M_works_51 : decode y_M_works.2.1 51 = .ok (.goto 116, 3) := by decide +kernel
theorem d_M_works_54 : decode y_M_works.2.1 54 = .ok (.iload 7, 2) := by decide +kernel
theorem d_M_works_56 : decode y_M_works.2.1 56 = .ok (.sipush 2000, 3) := by decide +kernel
theorem d_M_works_59 : decode y_M_works.2.1 59 = .ok (.if_icmp .ge 30, 3) := by decide +kernel
theorem d_M_works_62 : decode y_M_works.2.1 62 = .ok (.aload_n 0, 1) := by decide +kernel
theorem d_M_works_63 : decode y_M_works.2.1 63 = .ok (.getfield 124, 3) := by decide +kernel
theorem d_M_works_66 : decode y_M_works.2.1 66 = .ok (.iload 5, 2) := by decide +kernel
theorem d_M_works_68 : decode y_M_works.2.1 68 = .ok (.aload_n 0, 1) := by decide +kernel
theorem d_M_works_69 : decode y_M_works.2.1 69 = .ok (.iload 7, 2) := by decide +kernel
theorem d_M_works_71 : decode y_M_works.2.1 71 = .ok (.sipush 1000, 3) := by decide +kernel
theorem d_M_works_74 : decode y_M_works.2.1 74 = .ok (.isub, 1) := by decide +kernel
theorem d_M_works_75 : decode y_M_works.2.1 75 = .ok (.iload_n 2, 1) := by decide +kernel
theorem d_M_works_76 : decode y_M_works.2.1 76 = .ok (.iload_n 3, 1) := by decide +kernel
theorem d_M_works_77 : decode y_M_works.2.1 77 = .ok (.iload 4, 2) := by decide +kernel
theorem d_M_works_79 : decode y_M_works.2.1 79 = .ok (.invokevirtual 127, 3) := by decide +kernel
theorem d_M_works_82 : decode y_M_works.2.1 82 = .ok (.iastore, 1) := by decide +kernel
theorem d_M_works_83 : decode y_M_works.2.1 83 = .ok (.iinc 5 1, 3) := by decide +kernel
theorem d_M_works_86 : decode y_M_works.2.1 86 = .ok (.goto 81, 3) := by decide +kernel
theorem d_M_works_89 : decode y_M_works.2.1 89 = .ok (.iload 7, 2) := by decide +kernel
theorem d_M_works_91 : decode y_M_works.2.1 91 = .ok (.sipush 2033, 3) := by decide +kernel
theorem d_M_works_94 : decode y_M_works.2.1 94 = .ok (.if_icmp .ne 35, 3) := by decide +kernel
theorem d_M_works_97 : decode y_M_works.2.1 97 = .ok (.aload_n 0, 1) := by decide +kernel
theorem d_M_works_98 : decode y_M_works.2.1 98 = .ok (.getfield 124, 3) := by decide +kernel
theorem d_M_works_101 : decode y_M_works.2.1 101 = .ok (.iload 5, 2) := by decide +kernel
theorem d_M_works_103 : decode y_M_works.2.1 103 = .ok (.iconst 1, 1) := by decide +kernel
theorem d_M_works_104 : decode y_M_works.2.1 104 = .ok (.isub, 1) := by decide +kernel
theorem d_M_works_105 : decode y_M_works.2.1 105 = .ok (.aload_n 0, 1) := by decide +kernel
theorem d_M_works_106 : decode y_M_works.2.1 106 = .ok (.getfield 124, 3) := by decide +kernel
theorem d_M_works_109 : decode y_M_works.2.1 109 = .ok (.iload 5, 2) := by decide +kernel
theorem d_M_works_111 : decode y_M_works.2.1 111 = .ok (.iconst 1, 1) := by decide +kernel
theorem d_M_works_112 : decode y_M_works.2.1 112 = .ok (.isub, 1) := by decide +kernel
theorem d_M_works_113 : decode y_M_works.2.1 113 = .ok (.iaload, 1) := by decide +kernel
theorem d_M_works_114 : decode y_M_works.2.1 114 = .ok (.ifCond .ne 7, 3) := by decide +kernel
theorem d_M_works_117 : decode y_M_works.2.1 117 = .ok (.iconst 1, 1) := by decide +kernel
theorem d_M_works_118 : decode y_M_works.2.1 118 = .ok (.goto 4, 3) := by decide +kernel
theorem d_M_works_121 : decode y_M_works.2.1 121 = .ok (.iconst 0, 1) := by decide +kernel
theorem d_M_works_122 : decode y_M_works.2.1 122 = .ok (.invokestatic 33, 3) := by decide +kernel
theorem d_M_works_125 : decode y_M_works.2.1 125 = .ok (.iastore, 1) := by decide +kernel
theorem d_M_works_126 : decode y_M_works.2.1 126 = .ok (.goto 41, 3) := by decide +kernel
theorem d_M_works_129 : decode y_M_works.2.1 129 = .ok (.iinc 5 (-1), 3) := by decide +kernel
theorem d_M_works_132 : decode y_M_works.2.1 132 = .ok (.aload_n 0, 1) := by decide +kernel
theorem d_M_works_133 : decode y_M_works.2.1 133 = .ok (.getfield 124, 3) := by decide +kernel
theorem d_M_works_136 : decode y_M_works.2.1 136 = .ok (.iload 5, 2) := by decide +kernel
theorem d_M_works_138 : decode y_M_works.2.1 138 = .ok (.iconst 1, 1) := by decide +kernel
theorem d_M_works_139 : decode y_M_works.2.1 139 = .ok (.isub, 1) := by decide +kernel
theorem d_M_works_140 : decode y_M_works.2.1 140 = .ok (.aload_n 0, 1) := by decide +kernel
theorem d_M_works_141 : decode y_M_works.2.1 141 = .ok (.iload 7, 2) := by decide +kernel
theorem d_M_works_143 : decode y_M_works.2.1 143 = .ok (.sipush 2000, 3) := by decide +kernel
theorem d_M_works_146 : decode y_M_works.2.1 146 = .ok (.isub, 1) := by decide +kernel
theorem d_M_works_147 : decode y_M_works.2.1 147 = .ok (.aload_n 0, 1) := by decide +kernel
theorem d_M_works_148 : decode y_M_works.2.1 148 = .ok (.getfield 124, 3) := by decide +kernel
theorem d_M_works_151 : decode y_M_works.2.1 151 = .ok (.iload 5, 2) := by decide +kernel
theorem d_M_works_153 : decode y_M_works.2.1 153 = .ok (.iconst 1, 1) := by decide +kernel
theorem d_M_works_154 : decode y_M_works.2.1 154 = .ok (.isub, 1) := by decide +kernel
theorem d_M_works_155 : decode y_M_works.2.1 155 = .ok (.iaload, 1) := by decide +kernel
theorem d_M_works_156 : decode y_M_works.2.1 156 = .ok (.aload_n 0, 1) := by decide +kernel
theorem d_M_works_157 : decode y_M_works.2.1 157 = .ok (.getfield 124, 3) := by decide +kernel
theorem d_M_works_160 : decode y_M_works.2.1 160 = .ok (.iload 5, 2) := by decide +kernel
theorem d_M_works_162 : decode y_M_works.2.1 162 = .ok (.iaload, 1) := by decide +kernel
theorem d_M_works_163 : decode y_M_works.2.1 163 = .ok (.invokevirtual 131, 3) := by decide +kernel
theorem d_M_works_166 : decode y_M_works.2.1 166 = .ok (.iastore, 1) := by decide +kernel
theorem d_M_works_167 : decode y_M_works.2.1 167 = .ok (.iinc 6 1, 3) := by decide +kernel
theorem d_M_works_170 : decode y_M_works.2.1 170 = .ok (.goto (-164), 3) := by decide +kernel
theorem d_M_works_173 : decode y_M_works.2.1 173 = .ok (.iload 5, 2) := by decide +kernel
theorem d_M_works_175 : decode y_M_works.2.1 175 = .ok (.ifCond .ne 7, 3) := by decide +kernel
theorem d_M_works_178 : decode y_M_works.2.1 178 = .ok (.iconst 0, 1) := by decide +kernel
theorem d_M_works_179 : decode y_M_works.2.1 179 = .ok (.goto 9, 3) := by decide +kernel
theorem d_M_works_182 : decode y_M_works.2.1 182 = .ok (.aload_n 0, 1) := by decide +kernel
theorem d_M_works_183 : decode y_M_works.2.1 183 = .ok (.getfield 124, 3) := by decide +kernel
theorem d_M_works_186 : decode y_M_works.2.1 186 = .ok (.iconst 0, 1) := by decide +kernel
theorem d_M_works_187 : decode y_M_works.2.1 187 = .ok (.iaload, 1) := by decide +kernel
theorem d_M_works_188 : decode y_M_works.2.1 188 = .ok (.ireturn, 1) := by decide +kernel
theorem d_M_isSecond_0 : decode y_M_isSecond.2.1 0 = .ok (.aload_n 0, 1) := by decide +kernel
theorem d_M_isSecond_1 : decode y_M_isSecond.2.1 1 = .ok (.getfield 135, 3) := by decide +kernel
theorem d_M_isSecond_4 : decode y_M_isSecond.2.1 4 = .ok (.iload_n 1, 1) := by decide +kernel
theorem d_M_isSecond_5 : decode y_M_isSecond.2.1 5 = .ok (.iaload, 1) := by decide +kernel
theorem d_M_isSecond_6 : decode y_M_isSecond.2.1 6 = .ok (.ifCond .le 21, 3) := by decide +kernel
theorem d_M_isSecond_9 : decode y_M_isSecond.2.1 9 = .ok (.aload_n 0, 1) := by decide +kernel
theorem d_M_isSecond_10 : decode y_M_isSecond.2.1 10 = .ok (.iload_n 1, 1) := by decide +kernel
theorem d_M_isSecond_11 : decode y_M_isSecond.2.1 11 = .ok (.invokevirtual 138, 3) := by decide +kernel
theorem d_M_isSecond_14 : decode y_M_isSecond.2.1 14 = .ok (.aload_n 0, 1) := by decide +kernel
theorem d_M_isSecond_15 : decode y_M_isSecond.2.1 15 = .ok (.getfield 135, 3) := by decide +kernel
theorem d_M_isSecond_18 : decode y_M_isSecond.2.1 18 = .ok (.iload_n 1, 1) := by decide +kernel
theorem d_M_isSecond_19 : decode y_M_isSecond.2.1 19 = .ok (.iaload, 1) := by decide +kernel
theorem d_M_isSecond_20 : decode y_M_isSecond.2.1 20 = .ok (.if_icmp .lt 7, 3) := by decide +kernel
theorem d_M_isSecond_23 : decode y_M_isSecond.2.1 23 = .ok (.iconst 1, 1) := by decide +kernel
theorem d_M_isSecond_24 : decode y_M_isSecond.2.1 24 = .ok (.goto 4, 3) := by decide +kernel
theorem d_M_isSecond_27 : decode y_M_isSecond.2.1 27 = .ok (.iconst 0, 1) := by decide +kernel
theorem d_M_isSecond_28 : decode y_M_isSecond.2.1 28 = .ok (.ireturn, 1) := by decide +kernel
theorem d_M_conditionOf_0 : decode y_M_conditionOf.2.1 0 = .ok (.aload_n 0, 1) := by decide +kernel
theorem d_M_conditionOf_1 : decode y_M_conditionOf.2.1 1 = .ok (.iconst 2, 1) := by decide +kernel
theorem d_M_conditionOf_2 : decode y_M_conditionOf.2.1 2 = .ok (.iload_n 1, 1) := by decide +kernel
theorem d_M_conditionOf_3 : decode y_M_conditionOf.2.1 3 = .ok (.imul, 1) := by decide +kernel
theorem d_M_conditionOf_4 : decode y_M_conditionOf.2.1 4 = .ok (.aload_n 0, 1) := by decide +kernel
theorem d_M_conditionOf_5 : decode y_M_conditionOf.2.1 5 = .ok (.iload_n 1, 1) := by decide +kernel
theorem d_M_conditionOf_6 : decode y_M_conditionOf.2.1 6 = .ok (.invokevirtual 141, 3) := by decide +kernel
theorem d_M_conditionOf_9 : decode y_M_conditionOf.2.1 9 = .ok (.invokestatic 33, 3) := by decide +kernel
theorem d_M_conditionOf_12 : decode y_M_conditionOf.2.1 12 = .ok (.iadd, 1) := by decide +kernel
theorem d_M_conditionOf_13 : decode y_M_conditionOf.2.1 13 = .ok (.iload_n 3, 1) := by decide +kernel
theorem d_M_conditionOf_14 : decode y_M_conditionOf.2.1 14 = .ok (.aload_n 0, 1) := by decide +kernel
theorem d_M_conditionOf_15 : decode y_M_conditionOf.2.1 15 = .ok (.iload_n 1, 1) := by decide +kernel
theorem d_M_conditionOf_16 : decode y_M_conditionOf.2.1 16 = .ok (.invokevirtual 138, 3) := by decide +kernel
theorem d_M_conditionOf_19 : decode y_M_conditionOf.2.1 19 = .ok (.iload_n 2, 1) := by decide +kernel
theorem d_M_conditionOf_20 : decode y_M_conditionOf.2.1 20 = .ok (.invokevirtual 144, 3) := by decide +kernel
theorem d_M_conditionOf_23 : decode y_M_conditionOf.2.1 23 = .ok (.ireturn, 1) := by decide +kernel
theorem d_M_may_0 : decode y_M_may.2.1 0 = .ok (.aload_n 0, 1) := by decide +kernel
theorem d_M_may_1 : decode y_M_may.2.1 1 = .ok (.iload_n 1, 1) := by decide +kernel
theorem d_M_may_2 : decode y_M_may.2.1 2 = .ok (.iload_n 2, 1) := by decide +kernel
theorem d_M_may_3 : decode y_M_may.2.1 3 = .ok (.iload_n 3, 1) := by decide +kernel
theorem d_M_may_4 : decode y_M_may.2.1 4 = .ok (.invokevirtual 147, 3) := by decide +kernel
theorem d_M_may_7 : decode y_M_may.2.1 7 = .ok (.ifCond .eq 7, 3) := by decide +kernel
theorem d_M_may_10 : decode y_M_may.2.1 10 = .ok (.iconst 1, 1) := by decide +kernel
theorem d_M_may_11 : decode y_M_may.2.1 11 = .ok (.goto 4, 3) := by decide +kernel
theorem d_M_may_14 : decode y_M_may.2.1 14 = .ok (.iconst 0, 1) := by decide +kernel
theorem d_M_may_15 : decode y_M_may.2.1 15 = .ok (.ireturn, 1) := by decide +kernel
theorem d_M_settled_0 : decode y_M_settled.2.1 0 = .ok (.iload_n 2, 1) := by decide +kernel
theorem d_M_settled_1 : decode y_M_settled.2.1 1 = .ok (.istore_n 3, 1) := by decide +kernel
theorem d_M_settled_2 : decode y_M_settled.2.1 2 = .ok (.iconst (-1), 1) := by decide +kernel
theorem d_M_settled_3 : decode y_M_settled.2.1 3 = .ok (.istore 4, 2) := by decide +kernel
theorem d_M_settled_5 : decode y_M_settled.2.1 5 = .ok (.iload_n 3, 1) := by decide +kernel
theorem d_M_settled_6 : decode y_M_settled.2.1 6 = .ok (.iload 4, 2) := by decide +kernel
theorem d_M_settled_8 : decode y_M_settled.2.1 8 = .ok (.if_icmp .eq 62, 3) := by decide +kernel
theorem d_M_settled_11 : decode y_M_settled.2.1 11 = .ok (.iload_n 3, 1) := by decide +kernel
theorem d_M_settled_12 : decode y_M_settled.2.1 12 = .ok (.istore 4, 2) := by decide +kernel
theorem d_M_settled_14 : decode y_M_settled.2.1 14 = .ok (.iconst 0, 1) := by decide +kernel
theorem d_M_settled_15 : decode y_M_settled.2.1 15 = .ok (.istore 5, 2) := by decide +kernel
theorem d_M_settled_17 : decode y_M_settled.2.1 17 = .ok (.iload 5, 2) := by decide +kernel
theorem d_M_settled_19 : decode y_M_settled.2.1 19 = .ok (.aload_n 0, 1) := by decide +kernel
theorem d_M_settled_20 : decode y_M_settled.2.1 20 = .ok (.getfield 14, 3) := by decide +kernel
theorem d_M_settled_23 : decode y_M_settled.2.1 23 = .ok (.if_icmp .ge 44, 3) := by decide +kernel
theorem d_M_settled_26 : decode y_M_settled.2.1 26 = .ok (.iload 4, 2) := by decide +kernel
theorem d_M_settled_28 : decode y_M_settled.2.1 28 = .ok (.iload 5, 2) := by decide +kernel
theorem d_M_settled_30 : decode y_M_settled.2.1 30 = .ok (.invokestatic 29, 3) := by decide +kernel
theorem d_M_settled_33 : decode y_M_settled.2.1 33 = .ok (.ifCond .eq 26, 3) := by decide +kernel
theorem d_M_settled_36 : decode y_M_settled.2.1 36 = .ok (.aload_n 0, 1) := by decide +kernel
theorem d_M_settled_37 : decode y_M_settled.2.1 37 = .ok (.iload 5, 2) := by decide +kernel
theorem d_M_settled_39 : decode y_M_settled.2.1 39 = .ok (.iload_n 1, 1) := by decide +kernel
theorem d_M_settled_40 : decode y_M_settled.2.1 40 = .ok (.iload 4, 2) := by decide +kernel
theorem d_M_settled_42 : decode y_M_settled.2.1 42 = .ok (.invokevirtual 150, 3) := by decide +kernel
theorem d_M_settled_45 : decode y_M_settled.2.1 45 = .ok (.ifCond .ne 14, 3) := by decide +kernel
theorem d_M_settled_48 : decode y_M_settled.2.1 48 = .ok (.iload_n 3, 1) := by decide +kernel
theorem d_M_settled_49 : decode y_M_settled.2.1 49 = .ok (.iconst 1, 1) := by decide +kernel
theorem d_M_settled_50 : decode y_M_settled.2.1 50 = .ok (.iload 5, 2) := by decide +kernel
theorem d_M_settled_52 : decode y_M_settled.2.1 52 = .ok (.ishl, 1) := by decide +kernel
theorem d_M_settled_53 : decode y_M_settled.2.1 53 = .ok (.iconst (-1), 1) := by decide +kernel
theorem d_M_settled_54 : decode y_M_settled.2.1 54 = .ok (.ixor, 1) := by decide +kernel
theorem d_M_settled_55 : decode y_M_settled.2.1 55 = .ok (.iand, 1) := by decide +kernel
theorem d_M_settled_56 : decode y_M_settled.2.1 56 = .ok (.goto 4, 3) := by decide +kernel
theorem d_M_settled_59 : decode y_M_settled.2.1 59 = .ok (.iload_n 3, 1) := by decide +kernel
theorem d_M_settled_60 : decode y_M_settled.2.1 60 = .ok (.istore_n 3, 1) := by decide +kernel
theorem d_M_settled_61 : decode y_M_settled.2.1 61 = .ok (.iinc 5 1, 3) := by decide +kernel
theorem d_M_settled_64 : decode y_M_settled.2.1 64 = .ok (.goto (-47), 3) := by decide +kernel
theorem d_M_settled_67 : decode y_M_settled.2.1 67 = .ok (.goto (-62), 3) := by decide +kernel
theorem d_M_settled_70 : decode y_M_settled.2.1 70 = .ok (.iload_n 3, 1) := by decide +kernel
theorem d_M_settled_71 : decode y_M_settled.2.1 71 = .ok (.ireturn, 1) := by decide +kernel
theorem d_M_tableOf_0 : decode y_M_tableOf.2.1 0 = .ok (.iconst 0, 1) := by decide +kernel
theorem d_M_tableOf_1 : decode y_M_tableOf.2.1 1 = .ok (.istore_n 2, 1) := by decide +kernel
theorem d_M_tableOf_2 : decode y_M_tableOf.2.1 2 = .ok (.iload_n 2, 1) := by decide +kernel
theorem d_M_tableOf_3 : decode y_M_tableOf.2.1 3 = .ok (.iconst 3, 1) := by decide +kernel
theorem d_M_tableOf_4 : decode y_M_tableOf.2.1 4 = .ok (.if_icmp .ge 24, 3) := by decide +kernel
theorem d_M_tableOf_7 : decode y_M_tableOf.2.1 7 = .ok (.aload_n 0, 1) := by decide +kernel
theorem d_M_tableOf_8 : decode y_M_tableOf.2.1 8 = .ok (.getfield 154, 3) := by decide +kernel
theorem d_M_tableOf_11 : decode y_M_tableOf.2.1 11 = .ok (.iload_n 2, 1) := by decide +kernel
theorem d_M_tableOf_12 : decode y_M_tableOf.2.1 12 = .ok (.iaload, 1) := by decide +kernel
theorem d_M_tableOf_13 : decode y_M_tableOf.2.1 13 = .ok (.iload_n 1, 1) := by decide +kernel
theorem d_M_tableOf_14 : decode y_M_tableOf.2.1 14 = .ok (.invokestatic 29, 3) := by decide +kernel
theorem d_M_tableOf_17 : decode y_M_tableOf.2.1 17 = .ok (.ifCond .eq 5, 3) := by decide +kernel
theorem d_M_tableOf_20 : decode y_M_tableOf.2.1 20 = .ok (.iload_n 2, 1) := by decide +kernel
theorem d_M_tableOf_21 : decode y_M_tableOf.2.1 21 = .ok (.ireturn, 1) := by decide +kernel
theorem d_M_tableOf_22 : decode y_M_tableOf.2.1 22 = .ok (.iinc 2 1, 3) := by decide +kernel
theorem d_M_tableOf_25 : decode y_M_tableOf.2.1 25 = .ok (.goto (-23), 3) := by decide +kernel
theorem d_M_tableOf_28 : decode y_M_tableOf.2.1 28 = .ok (.iconst (-1), 1) := by decide +kernel
theorem d_M_tableOf_29 : decode y_M_tableOf.2.1 29 = .ok (.ireturn, 1) := by decide +kernel
theorem d_M_book_0 : decode y_M_book.2.1 0 = .ok (.aload_n 0, 1) := by decide +kernel
theorem d_M_book_1 : decode y_M_book.2.1 1 = .ok (.iconst 0, 1) := by decide +kernel
theorem d_M_book_2 : decode y_M_book.2.1 2 = .ok (.putfield 3, 3) := by decide +kernel
theorem d_M_book_5 : decode y_M_book.2.1 5 = .ok (.aload_n 0, 1) := by decide +kernel
theorem d_M_book_6 : decode y_M_book.2.1 6 = .ok (.bipush 60, 2) := by decide +kernel
theorem d_M_book_8 : decode y_M_book.2.1 8 = .ok (.invokevirtual 157, 3) := by decide +kernel
theorem d_M_book_11 : decode y_M_book.2.1 11 = .ok (.istore_n 2, 1) := by decide +kernel
theorem d_M_book_12 : decode y_M_book.2.1 12 = .ok (.iload_n 1, 1) := by decide +kernel
theorem d_M_book_13 : decode y_M_book.2.1 13 = .ok (.i2l, 1) := by decide +kernel
theorem d_M_book_14 : decode y_M_book.2.1 14 = .ok (.lconst 0, 1) := by decide +kernel
theorem d_M_book_15 : decode y_M_book.2.1 15 = .ok (.ldc2_w 160, 3) := by decide +kernel
theorem d_M_book_18 : decode y_M_book.2.1 18 = .ok (.invokestatic 17, 3) := by decide +kernel
theorem d_M_book_21 : decode y_M_book.2.1 21 = .ok (.ifCond .eq 32, 3) := by decide +kernel
theorem d_M_book_24 : decode y_M_book.2.1 24 = .ok (.iload_n 1, 1) := by decide +kernel
theorem d_M_book_25 : decode y_M_book.2.1 25 = .ok (.bipush 12, 2) := by decide +kernel
theorem d_M_book_27 : decode y_M_book.2.1 27 = .ok (.if_icmp .ne 12, 3) := by decide +kernel
theorem d_M_book_30 : decode y_M_book.2.1 30 = .ok (.aload_n 0, 1) := by decide +kernel
theorem d_M_book_31 : decode y_M_book.2.1 31 = .ok (.getfield 14, 3) := by decide +kernel
theorem d_M_book_34 : decode y_M_book.2.1 34 = .ok (.bipush 12, 2) := by decide +kernel
theorem d_M_book_36 : decode y_M_book.2.1 36 = .ok (.if_icmp .eq 17, 3) := by decide +kernel
theorem d_M_book_39 : decode y_M_book.2.1 39 = .ok (.iload_n 1, 1) := by decide +kernel
theorem d_M_book_40 : decode y_M_book.2.1 40 = .ok (.bipush 12, 2) := by decide +kernel
theorem d_M_book_42 : decode y_M_book.2.1 42 = .ok (.if_icmp .ge 14, 3) := by decide +kernel
theorem d_M_book_45 : decode y_M_book.2.1 45 = .ok (.iload_n 1, 1) := by decide +kernel
theorem d_M_book_46 : decode y_M_book.2.1 46 = .ok (.aload_n 0, 1) := by decide +kernel
theorem d_M_book_47 : decode y_M_book.2.1 47 = .ok (.getfield 14, 3) := by decide +kernel
theorem d_M_book_50 : decode y_M_book.2.1 50 = .ok (.if_icmp .lt 6, 3) := by decide +kernel
theorem d_M_book_53 : decode y_M_book.2.1 53 = .ok (.bipush (-100), 2) := by decide +kernel
theorem d_M_book_55 : decode y_M_book.2.1 55 = .ok (.ireturn, 1) := by decide +kernel
theorem d_M_book_56 : decode y_M_book.2.1 56 = .ok (.aload_n 0, 1) := by decide +kernel
theorem d_M_book_57 : decode y_M_book.2.1 57 = .ok (.bipush 25, 2) := by decide +kernel
theorem d_M_book_59 : decode y_M_book.2.1 59 = .ok (.invokevirtual 162, 3) := by decide +kernel
theorem d_M_book_62 : decode y_M_book.2.1 62 = .ok (.istore_n 3, 1) := by decide +kernel
theorem d_M_book_63 : decode y_M_book.2.1 63 = .ok (.iconst 0, 1) := by decide +kernel
theorem d_M_book_64 : decode y_M_book.2.1 64 = .ok (.istore 4, 2) := by decide +kernel
theorem d_M_book_66 : decode y_M_book.2.1 66 = .ok (.iload_n 3, 1) := by decide +kernel
theorem d_M_book_67 : decode y_M_book.2.1 67 = .ok (.ifCond .eq 103, 3) := by decide +kernel
theorem d_M_book_70 : decode y_M_book.2.1 70 = .ok (.aload_n 0, 1) := by decide +kernel
theorem d_M_book_71 : decode y_M_book.2.1 71 = .ok (.bipush 59, 2) := by decide +kernel
theorem d_M_book_73 : decode y_M_book.2.1 73 = .ok (.invokevirtual 95, 3) := by decide +kernel
theorem d_M_book_76 : decode y_M_book.2.1 76 = .ok (.ifCond .eq 94, 3) := by decide +kernel
theorem d_M_book_79 : decode y_M_book.2.1 79 = .ok (.aload_n 0, 1) := by decide +kernel
theorem d_M_book_80 : decode y_M_book.2.1 80 = .ok (.getfield 43, 3) := by decide +kernel
theorem d_M_book_83 : decode y_M_book.2.1 83 = .ok (.aload_n 0, 1) := by decide +kernel
theorem d_M_book_84 : decode y_M_book.2.1 84 = .ok (.getfield 46, 3) := by decide +kernel
theorem d_M_book_87 : decode y_M_book.2.1 87 = .ok (.if_icmp .ge 29, 3) := by decide +kernel
theorem d_M_book_90 : decode y_M_book.2.1 90 = .ok (.aload_n 0, 1) := by decide +kernel
theorem d_M_book_91 : decode y_M_book.2.1 91 = .ok (.getfield 40, 3) := by decide +kernel
theorem d_M_book_94 : decode y_M_book.2.1 94 = .ok (.aload_n 0, 1) := by decide +kernel
theorem d_M_book_95 : decode y_M_book.2.1 95 = .ok (.getfield 43, 3) := by decide +kernel
theorem d_M_book_98 : decode y_M_book.2.1 98 = .ok (.iaload, 1) := by decide +kernel
theorem d_M_book_99 : decode y_M_book.2.1 99 = .ok (.i2l, 1) := by decide +kernel
theorem d_M_book_100 : decode y_M_book.2.1 100 = .ok (.ldc2_w 165, 3) := by decide +kernel
theorem d_M_book_103 : decode y_M_book.2.1 103 = .ok (.ldc2_w 167, 3) := by decide +kernel
theorem d_M_book_106 : decode y_M_book.2.1 106 = .ok (.invokestatic 17, 3) := by decide +kernel
theorem d_M_book_109 : decode y_M_book.2.1 109 = .ok (.ifCond .eq 7, 3) := by decide +kernel
theorem d_M_book_112 : decode y_M_book.2.1 112 = .ok (.iconst 1, 1) := by decide +kernel
theorem d_M_book_113 : decode y_M_book.2.1 113 = .ok (.goto 4, 3) := by decide +kernel
theorem d_M_book_116 : decode y_M_book.2.1 116 = .ok (.iconst 0, 1) := by decide +kernel
theorem d_M_book_117 : decode y_M_book.2.1 117 = .ok (.istore_n 3, 1) := by decide +kernel
theorem d_M_book_118 : decode y_M_book.2.1 118 = .ok (.iload_n 3, 1) := by decide +kernel
theorem d_M_book_119 : decode y_M_book.2.1 119 = .ok (.ifCond .eq 51, 3) := by decide +kernel
theorem d_M_book_122 : decode y_M_book.2.1 122 = .ok (.aload_n 0, 1) := by decide +kernel
theorem d_M_book_123 : decode y_M_book.2.1 123 = .ok (.getfield 40, 3) := by decide +kernel
theorem d_M_book_126 : decode y_M_book.2.1 126 = .ok (.aload_n 0, 1) := by decide +kernel
theorem d_M_book_127 : decode y_M_book.2.1 127 = .ok (.getfield 43, 3) := by decide +kernel
theorem d_M_book_130 : decode y_M_book.2.1 130 = .ok (.iaload, 1) := by decide +kernel
theorem d_M_book_131 : decode y_M_book.2.1 131 = .ok (.bipush 48, 2) := by decide +kernel
theorem d_M_book_133 : decode y_M_book.2.1 133 = .ok (.isub, 1) := by decide +kernel
theorem d_M_book_134 : decode y_M_book.2.1 134 = .ok (.istore 4, 2) := by decide +kernel
theorem d_M_book_136 : decode y_M_book.2.1 136 = .ok (.aload_n 0, 1) := by decide +kernel
theorem d_M_book_137 : decode y_M_book.2.1 137 = .ok (.dup, 1) := by decide +kernel
theorem d_M_book_138 : decode y_M_book.2.1 138 = .ok (.getfield 43, 3) := by decide +kernel
theorem d_M_book_141 : decode y_M_book.2.1 141 = .ok (.iconst 1, 1) := by decide +kernel
theorem d_M_book_142 : decode y_M_book.2.1 142 = .ok (.iadd, 1) := by decide +kernel
theorem d_M_book_143 : decode y_M_book.2.1 143 = .ok (.putfield 43, 3) := by decide +kernel
theorem d_M_book_146 : decode y_M_book.2.1 146 = .ok (.aload_n 0, 1) := by decide +kernel
theorem d_M_book_147 : decode y_M_book.2.1 147 = .ok (.bipush 59, 2) := by decide +kernel
theorem d_M_book_149 : decode y_M_book.2.1 149 = .ok (.invokevirtual 95, 3) := by decide +kernel
theorem d_M_book_152 : decode y_M_book.2.1 152 = .ok (.ifCond .eq 16, 3) := by decide +kernel
theorem d_M_book_155 : decode y_M_book.2.1 155 = .ok (.aload_n 0, 1) := by decide +kernel
theorem d_M_book_156 : decode y_M_book.2.1 156 = .ok (.bipush 26, 2) := by decide +kernel
theorem d_M_book_158 : decode y_M_book.2.1 158 = .ok (.invokevirtual 162, 3) := by decide +kernel
theorem d_M_book_161 : decode y_M_book.2.1 161 = .ok (.ifCond .eq 7, 3) := by decide +kernel
theorem d_M_book_164 : decode y_M_book.2.1 164 = .ok (.iconst 1, 1) := by decide +kernel
theorem d_M_book_165 : decode y_M_book.2.1 165 = .ok (.goto 4, 3) := by decide +kernel
theorem d_M_book_168 : decode y_M_book.2.1 168 = .ok (.iconst 0, 1) := by decide +kernel
theorem d_M_book_169 : decode y_M_book.2.1 169 = .ok (.istore_n 3, 1) := by decide +kernel
theorem d_M_book_170 : decode y_M_book.2.1 170 = .ok (.aload_n 0, 1) := by decide +kernel
theorem d_M_book_171 : decode y_M_book.2.1 171 = .ok (.iload_n 2, 1) := by decide +kernel
theorem d_M_book_172 : decode y_M_book.2.1 172 = .ok (.bipush 60, 2) := by decide +kernel
theorem d_M_book_174 : decode y_M_book.2.1 174 = .ok (.iload_n 3, 1) := by decide +kernel
theorem d_M_book_175 : decode y_M_book.2.1 175 = .ok (.invokevirtual 169, 3) := by decide +kernel
theorem d_M_book_178 : decode y_M_book.2.1 178 = .ok (.istore 5, 2) := by decide +kernel
theorem d_M_book_180 : decode y_M_book.2.1 180 = .ok (.iload 5, 2) := by decide +kernel
theorem d_M_book_182 : decode y_M_book.2.1 182 = .ok (.ifCond .ge 6, 3) := by decide +kernel
theorem d_M_book_185 : decode y_M_book.2.1 185 = .ok (.iload 5, 2) := by decide +kernel
theorem d_M_book_187 : decode y_M_book.2.1 187 = .ok (.ireturn, 1) := by decide +kernel
theorem d_M_book_188 : decode y_M_book.2.1 188 = .ok (.iload_n 1, 1) := by decide +kernel
theorem d_M_book_189 : decode y_M_book.2.1 189 = .ok (.bipush 12, 2) := by decide +kernel
theorem d_M_book_191 : decode y_M_book.2.1 191 = .ok (.if_icmp .ne 10, 3) := by decide +kernel
theorem d_M_book_194 : decode y_M_book.2.1 194 = .ok (.aload_n 0, 1) := by decide +kernel
theorem d_M_book_195 : decode y_M_book.2.1 195 = .ok (.getfield 14, 3) := by decide +kernel
theorem d_M_book_198 : decode y_M_book.2.1 198 = .ok (.goto 4, 3) := by decide +kernel
theorem d_M_book_201 : decode y_M_book.2.1 201 = .ok (.iload_n 1, 1) := by decide +kernel
theorem d_M_book_202 : decode y_M_book.2.1 202 = .ok (.istore 6, 2) := by decide +kernel
theorem d_M_book_204 : decode y_M_book.2.1 204 = .ok (.iload_n 1, 1) := by decide +kernel
theorem d_M_book_205 : decode y_M_book.2.1 205 = .ok (.bipush 12, 2) := by decide +kernel
theorem d_M_book_207 : decode y_M_book.2.1 207 = .ok (.if_icmp .ne 30, 3) := by decide +kernel
theorem d_M_book_210 : decode y_M_book.2.1 210 = .ok (.aload_n 0, 1) := by decide +kernel
theorem d_M_book_211 : decode y_M_book.2.1 211 = .ok (.getfield 173, 3) := by decide +kernel
theorem d_M_book_214 : decode y_M_book.2.1 214 = .ok (.iload 6, 2) := by decide +kernel
theorem d_M_book_216 : decode y_M_book.2.1 216 = .ok (.bipush 99, 2) := by decide +kernel
theorem d_M_book_218 : decode y_M_book.2.1 218 = .ok (.iastore, 1) := by decide +kernel
theorem d_M_book_219 : decode y_M_book.2.1 219 = .ok (.aload_n 0, 1) := by decide +kernel
theorem d_M_book_220 : decode y_M_book.2.1 220 = .ok (.getfield 176, 3) := by decide +kernel
theorem d_M_book_223 : decode y_M_book.2.1 223 = .ok (.iload 6, 2) := by decide +kernel
theorem d_M_book_225 : decode y_M_book.2.1 225 = .ok (.iconst 0, 1) := by decide +kernel
theorem d_M_book_226 : decode y_M_book.2.1 226 = .ok (.iastore, 1) := by decide +kernel
theorem d_M_book_227 : decode y_M_book.2.1 227 = .ok (.aload_n 0, 1) := by decide +kernel
theorem d_M_book_228 : decode y_M_book.2.1 228 = .ok (.dup, 1) := by decide +kernel
theorem d_M_book_229 : decode y_M_book.2.1 229 = .ok (.getfield 14, 3) := by decide +kernel
theorem d_M_book_232 : decode y_M_book.2.1 232 = .ok (.iconst 1, 1) := by decide +kernel
theorem d_M_book_233 : decode y_M_book.2.1 233 = .ok (.iadd, 1) := by decide +kernel
theorem d_M_book_234 : decode y_M_book.2.1 234 = .ok (.putfield 14, 3) := by decide +kernel
theorem d_M_book_237 : decode y_M_book.2.1 237 = .ok (.aload_n 0, 1) := by decide +kernel
theorem d_M_book_238 : decode y_M_book.2.1 238 = .ok (.getfield 135, 3) := by decide +kernel
theorem d_M_book_241 : decode y_M_book.2.1 241 = .ok (.iload 6, 2) := by decide +kernel
theorem d_M_book_243 : decode y_M_book.2.1 243 = .ok (.iload 4, 2) := by decide +kernel
theorem d_M_book_245 : decode y_M_book.2.1 245 = .ok (.iastore, 1) := by decide +kernel
theorem d_M_book_246 : decode y_M_book.2.1 246 = .ok (.aload_n 0, 1) := by decide +kernel
theorem d_M_book_247 : decode y_M_book.2.1 247 = .ok (.bipush 25, 2) := by decide +kernel
theorem d_M_book_249 : decode y_M_book.2.1 249 = .ok (.iconst 2, 1) := by decide +kernel
theorem d_M_book_250 : decode y_M_book.2.1 250 = .ok (.iload 6, 2) := by decide +kernel
theorem d_M_book_252 : decode y_M_book.2.1 252 = .ok (.imul, 1) := by decide +kernel
theorem d_M_book_253 : decode y_M_book.2.1 253 = .ok (.invokevirtual 179, 3) := by decide +kernel
theorem d_M_book_256 : decode y_M_book.2.1 256 = .ok (.aload_n 0, 1) := by decide +kernel
theorem d_M_book_257 : decode y_M_book.2.1 257 = .ok (.bipush 26, 2) := by decide +kernel
theorem d_M_book_259 : decode y_M_book.2.1 259 = .ok (.iconst 2, 1) := by decide +kernel
theorem d_M_book_260 : decode y_M_book.2.1 260 = .ok (.iload 6, 2) := by decide +kernel
theorem d_M_book_262 : decode y_M_book.2.1 262 = .ok (.imul, 1) := by decide +kernel
theorem d_M_book_263 : decode y_M_book.2.1 263 = .ok (.iconst 1, 1) := by decide +kernel
theorem d_M_book_264 : decode y_M_book.2.1 264 = .ok (.iadd, 1) := by decide +kernel
theorem d_M_book_265 : decode y_M_book.2.1 265 = .ok (.invokevirtual 179, 3) := by decide +kernel
theorem d_M_book_268 : decode y_M_book.2.1 268 = .ok (.aload_n 0, 1) := by decide +kernel
theorem d_M_book_269 : decode y_M_book.2.1 269 = .ok (.iload 6, 2) := by decide +kernel
theorem d_M_book_271 : decode y_M_book.2.1 271 = .ok (.invokevirtual 183, 3) := by decide +kernel
theorem d_M_book_274 : decode y_M_book.2.1 274 = .ok (.istore 7, 2) := by decide +kernel
theorem d_M_book_276 : decode y_M_book.2.1 276 = .ok (.iload 7, 2) := by decide +kernel
theorem d_M_book_278 : decode y_M_book.2.1 278 = .ok (.ifCond .lt 23, 3) := by decide +kernel
theorem d_M_book_281 : decode y_M_book.2.1 281 = .ok (.aload_n 0, 1) := by decide +kernel
theorem d_M_book_282 : decode y_M_book.2.1 282 = .ok (.getfield 154, 3) := by decide +kernel
theorem d_M_book_285 : decode y_M_book.2.1 285 = .ok (.iload 7, 2) := by decide +kernel
theorem d_M_book_287 : decode y_M_book.2.1 287 = .ok (.aload_n 0, 1) := by decide +kernel
theorem d_M_book_288 : decode y_M_book.2.1 288 = .ok (.iload 7, 2) := by decide +kernel
theorem d_M_book_290 : decode y_M_book.2.1 290 = .ok (.aload_n 0, 1) := by decide +kernel
theorem d_M_book_291 : decode y_M_book.2.1 291 = .ok (.getfield 154, 3) := by decide +kernel
theorem d_M_book_294 : decode y_M_book.2.1 294 = .ok (.iload 7, 2) := by decide +kernel
theorem d_M_book_296 : decode y_M_book.2.1 296 = .ok (.iaload, 1) := by decide +kernel
theorem d_M_book_297 : decode y_M_book.2.1 297 = .ok (.invokevirtual 186, 3) := by decide +kernel
theorem d_M_book_300 : decode y_M_book.2.1 300 = .ok (.iastore, 1) := by decide +kernel
theorem d_M_book_301 : decode y_M_book.2.1 301 = .ok (.iload 6, 2) := by decide +kernel
theorem d_M_book_303 : decode y_M_book.2.1 303 = .ok (.ireturn, 1) := by decide +kernel
theorem d_M_rule_0 : decode y_M_rule.2.1 0 = .ok (.aload_n 0, 1) := by decide +kernel
theorem d_M_rule_1 : decode y_M_rule.2.1 1 = .ok (.iconst 0, 1) := by decide +kernel
theorem d_M_rule_2 : decode y_M_rule.2.1 2 = .ok (.putfield 3, 3) := by decide +kernel
theorem d_M_rule_5 : decode y_M_rule.2.1 5 = .ok (.aload_n 0, 1) := by decide +kernel
theorem d_M_rule_6 : decode y_M_rule.2.1 6 = .ok (.bipush 40, 2) := by decide +kernel
theorem d_M_rule_8 : decode y_M_rule.2.1 8 = .ok (.invokevirtual 157, 3) := by decide +kernel
theorem d_M_rule_11 : decode y_M_rule.2.1 11 = .ok (.istore_n 1, 1) := by decide +kernel
theorem d_M_rule_12 : decode y_M_rule.2.1 12 = .ok (.iload_n 1, 1) := by decide +kernel
theorem d_M_rule_13 : decode y_M_rule.2.1 13 = .ok (.ifCond .eq 12, 3) := by decide +kernel
theorem d_M_rule_16 : decode y_M_rule.2.1 16 = .ok (.aload_n 0, 1) := by decide +kernel
theorem d_M_rule_17 : decode y_M_rule.2.1 17 = .ok (.bipush 25, 2) := by decide +kernel
theorem d_M_rule_19 : decode y_M_rule.2.1 19 = .ok (.invokevirtual 162, 3) := by decide +kernel
theorem d_M_rule_22 : decode y_M_rule.2.1 22 = .ok (.ifCond .eq 7, 3) := by decide +kernel
theorem d_M_rule_25 : decode y_M_rule.2.1 25 = .ok (.iconst 1, 1) := by decide +kernel
theorem d_M_rule_26 : decode y_M_rule.2.1 26 = .ok (.goto 4, 3) := by decide +kernel
theorem d_M_rule_29 : decode y_M_rule.2.1 29 = .ok (.iconst 0, 1) := by decide +kernel
theorem d_M_rule_30 : decode y_M_rule.2.1 30 = .ok (.istore_n 2, 1) := by decide +kernel
theorem d_M_rule_31 : decode y_M_rule.2.1 31 = .ok (.aload_n 0, 1) := by decide +kernel
theorem d_M_rule_32 : decode y_M_rule.2.1 32 = .ok (.iload_n 1, 1) := by decide +kernel
theorem d_M_rule_33 : decode y_M_rule.2.1 33 = .ok (.bipush 40, 2) := by decide +kernel
theorem d_M_rule_35 : decode y_M_rule.2.1 35 = .ok (.iload_n 2, 1) := by decide +kernel
theorem d_M_rule_36 : decode y_M_rule.2.1 36 = .ok (.invokevirtual 169, 3) := by decide +kernel
theorem d_M_rule_39 : decode y_M_rule.2.1 39 = .ok (.istore_n 3, 1) := by decide +kernel
theorem d_M_rule_40 : decode y_M_rule.2.1 40 = .ok (.iload_n 3, 1) := by decide +kernel
theorem d_M_rule_41 : decode y_M_rule.2.1 41 = .ok (.ifCond .ge 5, 3) := by decide +kernel
theorem d_M_rule_44 : decode y_M_rule.2.1 44 = .ok (.iload_n 3, 1) := by decide +kernel
theorem d_M_rule_45 : decode y_M_rule.2.1 45 = .ok (.ireturn, 1) := by decide +kernel
theorem d_M_rule_46 : decode y_M_rule.2.1 46 = .ok (.aload_n 0, 1) := by decide +kernel
theorem d_M_rule_47 : decode y_M_rule.2.1 47 = .ok (.bipush 25, 2) := by decide +kernel
theorem d_M_rule_49 : decode y_M_rule.2.1 49 = .ok (.bipush 24, 2) := by decide +kernel
theorem d_M_rule_51 : decode y_M_rule.2.1 51 = .ok (.invokevirtual 179, 3) := by decide +kernel
theorem d_M_rule_54 : decode y_M_rule.2.1 54 = .ok (.iconst 0, 1) := by decide +kernel
theorem d_M_rule_55 : decode y_M_rule.2.1 55 = .ok (.ireturn, 1) := by decide +kernel
theorem d_M_set_0 : decode y_M_set.2.1 0 = .ok (.aload_n 0, 1) := by decide +kernel
theorem d_M_set_1 : decode y_M_set.2.1 1 = .ok (.iconst 0, 1) := by decide +kernel
theorem d_M_set_2 : decode y_M_set.2.1 2 = .ok (.putfield 3, 3) := by decide +kernel
theorem d_M_set_5 : decode y_M_set.2.1 5 = .ok (.iload_n 1, 1) := by decide +kernel
theorem d_M_set_6 : decode y_M_set.2.1 6 = .ok (.ifCond .ne 31, 3) := by decide +kernel
theorem d_M_set_9 : decode y_M_set.2.1 9 = .ok (.aload_n 0, 1) := by decide +kernel
theorem d_M_set_10 : decode y_M_set.2.1 10 = .ok (.iload_n 2, 1) := by decide +kernel
theorem d_M_set_11 : decode y_M_set.2.1 11 = .ok (.invokevirtual 189, 3) := by decide +kernel
theorem d_M_set_14 : decode y_M_set.2.1 14 = .ok (.ifCond .eq 19, 3) := by decide +kernel
theorem d_M_set_17 : decode y_M_set.2.1 17 = .ok (.iload_n 3, 1) := by decide +kernel
theorem d_M_set_18 : decode y_M_set.2.1 18 = .ok (.i2l, 1) := by decide +kernel
theorem d_M_set_19 : decode y_M_set.2.1 19 = .ok (.lconst 0, 1) := by decide +kernel
theorem d_M_set_20 : decode y_M_set.2.1 20 = .ok (.ldc2_w 192, 3) := by decide +kernel
theorem d_M_set_23 : decode y_M_set.2.1 23 = .ok (.invokestatic 17, 3) := by decide +kernel
theorem d_M_set_26 : decode y_M_set.2.1 26 = .ok (.ifCond .eq 7, 3) := by decide +kernel
theorem d_M_set_29 : decode y_M_set.2.1 29 = .ok (.iconst 1, 1) := by decide +kernel
theorem d_M_set_30 : decode y_M_set.2.1 30 = .ok (.goto 36, 3) := by decide +kernel
theorem d_M_set_33 : decode y_M_set.2.1 33 = .ok (.iconst 0, 1) := by decide +kernel
theorem d_M_set_34 : decode y_M_set.2.1 34 = .ok (.goto 32, 3) := by decide +kernel
theorem d_M_set_37 : decode y_M_set.2.1 37 = .ok (.iload_n 1, 1) := by decide +kernel
theorem d_M_set_38 : decode y_M_set.2.1 38 = .ok (.iconst 1, 1) := by decide +kernel
theorem d_M_set_39 : decode y_M_set.2.1 39 = .ok (.if_icmp .ne 26, 3) := by decide +kernel
theorem d_M_set_42 : decode y_M_set.2.1 42 = .ok (.iload_n 2, 1) := by decide +kernel
theorem d_M_set_43 : decode y_M_set.2.1 43 = .ok (.invokestatic 194, 3) := by decide +kernel
theorem d_M_set_46 : decode y_M_set.2.1 46 = .ok (.ifCond .eq 19, 3) := by decide +kernel
theorem d_M_set_49 : decode y_M_set.2.1 49 = .ok (.iload_n 3, 1) := by decide +kernel
theorem d_M_set_50 : decode y_M_set.2.1 50 = .ok (.i2l, 1) := by decide +kernel
theorem d_M_set_51 : decode y_M_set.2.1 51 = .ok (.lconst 1, 1) := by decide +kernel
theorem d_M_set_52 : decode y_M_set.2.1 52 = .ok (.ldc2_w 197, 3) := by decide +kernel
theorem d_M_set_55 : decode y_M_set.2.1 55 = .ok (.invokestatic 17, 3) := by decide +kernel
theorem d_M_set_58 : decode y_M_set.2.1 58 = .ok (.ifCond .eq 7, 3) := by decide +kernel
theorem d_M_set_61 : decode y_M_set.2.1 61 = .ok (.iconst 1, 1) := by decide +kernel
theorem d_M_set_62 : decode y_M_set.2.1 62 = .ok (.goto 4, 3) := by decide +kernel
theorem d_M_set_65 : decode y_M_set.2.1 65 = .ok (.iconst 0, 1) := by decide +kernel
theorem d_M_set_66 : decode y_M_set.2.1 66 = .ok (.istore 4, 2) := by decide +kernel
theorem d_M_set_68 : decode y_M_set.2.1 68 = .ok (.iload 4, 2) := by decide +kernel
theorem d_M_set_70 : decode y_M_set.2.1 70 = .ok (.ifCond .ne 5, 3) := by decide +kernel
theorem d_M_set_73 : decode y_M_set.2.1 73 = .ok (.iconst (-1), 1) := by decide +kernel
theorem d_M_set_74 : decode y_M_set.2.1 74 = .ok (.ireturn, 1) := by decide +kernel
theorem d_M_set_75 : decode y_M_set.2.1 75 = .ok (.iload_n 1, 1) := by decide +kernel
theorem d_M_set_76 : decode y_M_set.2.1 76 = .ok (.ifCond .ne 10, 3) := by decide +kernel
theorem d_M_set_79 : decode y_M_set.2.1 79 = .ok (.aload_n 0, 1) := by decide +kernel
theorem d_M_set_80 : decode y_M_set.2.1 80 = .ok (.getfield 173, 3) := by decide +kernel
theorem d_M_set_83 : decode y_M_set.2.1 83 = .ok (.goto 7, 3) := by decide +kernel
theorem d_M_set_86 : decode y_M_set.2.1 86 = .ok (.aload_n 0, 1) := by decide +kernel
theorem d_M_set_87 : decode y_M_set.2.1 87 = .ok (.getfield 199, 3) := by decide +kernel
theorem d_M_set_90 : decode y_M_set.2.1 90 = .ok (.astore 5, 2) := by decide +kernel
theorem d_M_set_92 : decode y_M_set.2.1 92 = .ok (.aload 5, 2) := by decide +kernel
theorem d_M_set_94 : decode y_M_set.2.1 94 = .ok (.iload_n 2, 1) := by decide +kernel
theorem d_M_set_95 : decode y_M_set.2.1 95 = .ok (.iaload, 1) := by decide +kernel
theorem d_M_set_96 : decode y_M_set.2.1 96 = .ok (.istore 6, 2) := by decide +kernel
theorem d_M_set_98 : decode y_M_set.2.1 98 = .ok (.aload 5, 2) := by decide +kernel
theorem d_M_set_100 : decode y_M_set.2.1 100 = .ok (.iload_n 2, 1) := by decide +kernel
theorem d_M_set_101 : decode y_M_set.2.1 101 = .ok (.iload_n 3, 1) := by decide +kernel
theorem d_M_set_102 : decode y_M_set.2.1 102 = .ok (.iastore, 1) := by decide +kernel
theorem d_M_set_103 : decode y_M_set.2.1 103 = .ok (.iload 6, 2) := by decide +kernel
theorem d_M_set_105 : decode y_M_set.2.1 105 = .ok (.ireturn, 1) := by decide +kernel
theorem d_M_sheet_0 : decode y_M_sheet.2.1 0 = .ok (.aload_n 0, 1) := by decide +kernel
theorem d_M_sheet_1 : decode y_M_sheet.2.1 1 = .ok (.iconst 0, 1) := by decide +kernel
theorem d_M_sheet_2 : decode y_M_sheet.2.1 2 = .ok (.putfield 3, 3) := by decide +kernel
theorem d_M_sheet_5 : decode y_M_sheet.2.1 5 = .ok (.iload_n 1, 1) := by decide +kernel
theorem d_M_sheet_6 : decode y_M_sheet.2.1 6 = .ok (.i2l, 1) := by decide +kernel
theorem d_M_sheet_7 : decode y_M_sheet.2.1 7 = .ok (.lconst 0, 1) := by decide +kernel
theorem d_M_sheet_8 : decode y_M_sheet.2.1 8 = .ok (.ldc2_w 202, 3) := by decide +kernel
theorem d_M_sheet_11 : decode y_M_sheet.2.1 11 = .ok (.invokestatic 17, 3) := by decide +kernel
theorem d_M_sheet_14 : decode y_M_sheet.2.1 14 = .ok (.ifCond .eq 9, 3) := by decide +kernel
theorem d_M_sheet_17 : decode y_M_sheet.2.1 17 = .ok (.iload_n 2, 1) := by decide +kernel
theorem d_M_sheet_18 : decode y_M_sheet.2.1 18 = .ok (.bipush 12, 2) := by decide +kernel
theorem d_M_sheet_20 : decode y_M_sheet.2.1 20 = .ok (.if_icmp .le 5, 3) := by decide +kernel
theorem d_M_sheet_23 : decode y_M_sheet.2.1 23 = .ok (.iconst (-1), 1) := by decide +kernel
theorem d_M_sheet_24 : decode y_M_sheet.2.1 24 = .ok (.ireturn, 1) := by decide +kernel
theorem d_M_sheet_25 : decode y_M_sheet.2.1 25 = .ok (.iload_n 1, 1) := by decide +kernel
theorem d_M_sheet_26 : decode y_M_sheet.2.1 26 = .ok (.iconst 3, 1) := by decide +kernel
theorem d_M_sheet_27 : decode y_M_sheet.2.1 27 = .ok (.if_icmp .eq 10, 3) := by decide +kernel
theorem d_M_sheet_30 : decode y_M_sheet.2.1 30 = .ok (.iload_n 2, 1) := by decide +kernel
theorem d_M_sheet_31 : decode y_M_sheet.2.1 31 = .ok (.ifCond .ge 6, 3) := by decide +kernel
theorem d_M_sheet_34 : decode y_M_sheet.2.1 34 = .ok (.bipush (-2), 2) := by decide +kernel
theorem d_M_sheet_36 : decode y_M_sheet.2.1 36 = .ok (.ireturn, 1) := by decide +kernel
theorem d_M_sheet_37 : decode y_M_sheet.2.1 37 = .ok (.iconst 0, 1) := by decide +kernel
theorem d_M_sheet_38 : decode y_M_sheet.2.1 38 = .ok (.istore 5, 2) := by decide +kernel
theorem d_M_sheet_40 : decode y_M_sheet.2.1 40 = .ok (.iload_n 3, 1) := by decide +kernel
theorem d_M_sheet_41 : decode y_M_sheet.2.1 41 = .ok (.istore 6, 2) := by decide +kernel
theorem d_M_sheet_43 : decode y_M_sheet.2.1 43 = .ok (.iconst 0, 1) := by decide +kernel
theorem d_M_sheet_44 : decode y_M_sheet.2.1 44 = .ok (.istore 7, 2) := by decide +kernel
theorem d_M_sheet_46 : decode y_M_sheet.2.1 46 = .ok (.iload 7, 2) := by decide +kernel
theorem d_M_sheet_48 : decode y_M_sheet.2.1 48 = .ok (.aload_n 0, 1) := by decide +kernel
theorem d_M_sheet_49 : decode y_M_sheet.2.1 49 = .ok (.getfield 14, 3) := by decide +kernel
theorem d_M_sheet_52 : decode y_M_sheet.2.1 52 = .ok (.if_icmp .ge 87, 3) := by decide +kernel
theorem d_M_sheet_55 : decode y_M_sheet.2.1 55 = .ok (.iload_n 1, 1) := by decide +kernel
theorem d_M_sheet_56 : decode y_M_sheet.2.1 56 = .ok (.ifCond .ne 9, 3) := by decide +kernel
theorem d_M_sheet_59 : decode y_M_sheet.2.1 59 = .ok (.iload 6, 2) := by decide +kernel
theorem d_M_sheet_61 : decode y_M_sheet.2.1 61 = .ok (.i2b, 1) := by decide +kernel
theorem d_M_sheet_62 : decode y_M_sheet.2.1 62 = .ok (.goto 16, 3) := by decide +kernel
theorem d_M_sheet_65 : decode y_M_sheet.2.1 65 = .ok (.iload_n 1, 1) := by decide +kernel
theorem d_M_sheet_66 : decode y_M_sheet.2.1 66 = .ok (.iconst 1, 1) := by decide +kernel
theorem d_M_sheet_67 : decode y_M_sheet.2.1 67 = .ok (.if_icmp .ne 9, 3) := by decide +kernel
theorem d_M_sheet_70 : decode y_M_sheet.2.1 70 = .ok (.iload 6, 2) := by decide +kernel
theorem d_M_sheet_72 : decode y_M_sheet.2.1 72 = .ok (.i2s, 1) := by decide +kernel
theorem d_M_sheet_73 : decode y_M_sheet.2.1 73 = .ok (.goto 5, 3) := by decide +kernel
theorem d_M_sheet_76 : decode y_M_sheet.2.1 76 = .ok (.iload 6, 2) := by decide +kernel
theorem d_M_sheet_78 : decode y_M_sheet.2.1 78 = .ok (.istore 8, 2) := by decide +kernel
theorem d_M_sheet_80 : decode y_M_sheet.2.1 80 = .ok (.aload_n 0, 1) := by decide +kernel
theorem d_M_sheet_81 : decode y_M_sheet.2.1 81 = .ok (.getfield 173, 3) := by decide +kernel
theorem d_M_sheet_84 : decode y_M_sheet.2.1 84 = .ok (.iload 7, 2) := by decide +kernel
theorem d_M_sheet_86 : decode y_M_sheet.2.1 86 = .ok (.iload_n 1, 1) := by decide +kernel
theorem d_M_sheet_87 : decode y_M_sheet.2.1 87 = .ok (.iconst 3, 1) := by decide +kernel
theorem d_M_sheet_88 : decode y_M_sheet.2.1 88 = .ok (.if_icmp .eq 9, 3) := by decide +kernel
theorem d_M_sheet_91 : decode y_M_sheet.2.1 91 = .ok (.iload 7, 2) := by decide +kernel
theorem d_M_sheet_93 : decode y_M_sheet.2.1 93 = .ok (.iload_n 2, 1) := by decide +kernel
theorem d_M_sheet_94 : decode y_M_sheet.2.1 94 = .ok (.if_icmp .lt 8, 3) := by decide +kernel
theorem d_M_sheet_97 : decode y_M_sheet.2.1 97 = .ok (.bipush 99, 2) := by decide +kernel
theorem d_M_sheet_99 : decode y_M_sheet.2.1 99 = .ok (.goto 14, 3) := by decide +kernel
theorem d_M_sheet_102 : decode y_M_sheet.2.1 102 = .ok (.iconst 0, 1) := by decide +kernel
theorem d_M_sheet_103 : decode y_M_sheet.2.1 103 = .ok (.bipush 99, 2) := by decide +kernel
theorem d_M_sheet_105 : decode y_M_sheet.2.1 105 = .ok (.iload 8, 2) := by decide +kernel
theorem d_M_sheet_107 : decode y_M_sheet.2.1 107 = .ok (.invokestatic 112, 3) := by decide +kernel
theorem d_M_sheet_110 : decode y_M_sheet.2.1 110 = .ok (.invokestatic 204, 3) := by decide +kernel
theorem d_M_sheet_113 : decode y_M_sheet.2.1 113 = .ok (.iastore, 1) := by decide +kernel
theorem d_M_sheet_114 : decode y_M_sheet.2.1 114 = .ok (.iload 5, 2) := by decide +kernel
theorem d_M_sheet_116 : decode y_M_sheet.2.1 116 = .ok (.aload_n 0, 1) := by decide +kernel
theorem d_M_sheet_117 : decode y_M_sheet.2.1 117 = .ok (.getfield 173, 3) := by decide +kernel
theorem d_M_sheet_120 : decode y_M_sheet.2.1 120 = .ok (.iload 7, 2) := by decide +kernel
theorem d_M_sheet_122 : decode y_M_sheet.2.1 122 = .ok (.iaload, 1) := by decide +kernel
theorem d_M_sheet_123 : decode y_M_sheet.2.1 123 = .ok (.iadd, 1) := by decide +kernel
theorem d_M_sheet_124 : decode y_M_sheet.2.1 124 = .ok (.istore 5, 2) := by decide +kernel
theorem d_M_sheet_126 : decode y_M_sheet.2.1 126 = .ok (.iload 6, 2) := by decide +kernel
theorem d_M_sheet_128 : decode y_M_sheet.2.1 128 = .ok (.iload 4, 2) := by decide +kernel
theorem d_M_sheet_130 : decode y_M_sheet.2.1 130 = .ok (.iadd, 1) := by decide +kernel
theorem d_M_sheet_131 : decode y_M_sheet.2.1 131 = .ok (.istore 6, 2) := by decide +kernel
theorem d_M_sheet_133 : decode y_M_sheet.2.1 133 = .ok (.iinc 7 1, 3) := by decide +kernel
theorem d_M_sheet_136 : decode y_M_sheet.2.1 136 = .ok (.goto (-90), 3) := by decide +kernel
theorem d_M_sheet_139 : decode y_M_sheet.2.1 139 = .ok (.iload_n 1, 1) := by decide +kernel
theorem d_M_sheet_140 : decode y_M_sheet.2.1 140 = .ok (.iconst 3, 1) := by decide +kernel
theorem d_M_sheet_141 : decode y_M_sheet.2.1 141 = .ok (.if_icmp .ne 8, 3) := by decide +kernel
theorem d_M_sheet_144 : decode y_M_sheet.2.1 144 = .ok (.bipush (-3), 2) := by decide +kernel
theorem d_M_sheet_146 : decode y_M_sheet.2.1 146 = .ok (.goto 5, 3) := by decide +kernel
theorem d_M_sheet_149 : decode y_M_sheet.2.1 149 = .ok (.iload 5, 2) := by decide +kernel
theorem d_M_sheet_151 : decode y_M_sheet.2.1 151 = .ok (.ireturn, 1) := by decide +kernel
theorem d_M_about_0 : decode y_M_about.2.1 0 = .ok (.aload_n 0, 1) := by decide +kernel
theorem d_M_about_1 : decode y_M_about.2.1 1 = .ok (.iconst 0, 1) := by decide +kernel
theorem d_M_about_2 : decode y_M_about.2.1 2 = .ok (.putfield 3, 3) := by decide +kernel
theorem d_M_about_5 : decode y_M_about.2.1 5 = .ok (.aload_n 0, 1) := by decide +kernel
theorem d_M_about_6 : decode y_M_about.2.1 6 = .ok (.iload_n 1, 1) := by decide +kernel
theorem d_M_about_7 : decode y_M_about.2.1 7 = .ok (.invokevirtual 189, 3) := by decide +kernel
theorem d_M_about_10 : decode y_M_about.2.1 10 = .ok (.ifCond .eq 15, 3) := by decide +kernel
theorem d_M_about_13 : decode y_M_about.2.1 13 = .ok (.iload_n 2, 1) := by decide +kernel
theorem d_M_about_14 : decode y_M_about.2.1 14 = .ok (.i2l, 1) := by decide +kernel
theorem d_M_about_15 : decode y_M_about.2.1 15 = .ok (.lconst 0, 1) := by decide +kernel
theorem d_M_about_16 : decode y_M_about.2.1 16 = .ok (.ldc2_w 207, 3) := by decide +kernel
theorem d_M_about_19 : decode y_M_about.2.1 19 = .ok (.invokestatic 17, 3) := by decide +kernel
theorem d_M_about_22 : decode y_M_about.2.1 22 = .ok (.ifCond .ne 8, 3) := by decide +kernel
theorem d_M_about_25 : decode y_M_about.2.1 25 = .ok (.aload_n 0, 1) := by decide +kernel
theorem d_M_about_26 : decode y_M_about.2.1 26 = .ok (.invokevirtual 209, 3) := by decide +kernel
theorem d_M_about_29 : decode y_M_about.2.1 29 = .ok (.ireturn, 1) := by decide +kernel
theorem d_M_about_30 : decode y_M_about.2.1 30 = .ok (.iload_n 2, 1) := by decide +kernel
theorem d_M_about_31 : decode y_M_about.2.1 31 = .ok (.tableswitch 55 0 3 #[29, 36, 43, 49], 29) := by decide +kernel
theorem d_M_about_60 : decode y_M_about.2.1 60 = .ok (.aload_n 0, 1) := by decide +kernel
theorem d_M_about_61 : decode y_M_about.2.1 61 = .ok (.getfield 173, 3) := by decide +kernel
theorem d_M_about_64 : decode y_M_about.2.1 64 = .ok (.iload_n 1, 1) := by decide +kernel
theorem d_M_about_65 : decode y_M_about.2.1 65 = .ok (.iaload, 1) := by decide +kernel
theorem d_M_about_66 : decode y_M_about.2.1 66 = .ok (.ireturn, 1) := by decide +kernel
theorem d_M_about_67 : decode y_M_about.2.1 67 = .ok (.aload_n 0, 1) := by decide +kernel
theorem d_M_about_68 : decode y_M_about.2.1 68 = .ok (.getfield 176, 3) := by decide +kernel
theorem d_M_about_71 : decode y_M_about.2.1 71 = .ok (.iload_n 1, 1) := by decide +kernel
theorem d_M_about_72 : decode y_M_about.2.1 72 = .ok (.iaload, 1) := by decide +kernel
theorem d_M_about_73 : decode y_M_about.2.1 73 = .ok (.ireturn, 1) := by decide +kernel
theorem d_M_about_74 : decode y_M_about.2.1 74 = .ok (.aload_n 0, 1) := by decide +kernel
theorem d_M_about_75 : decode y_M_about.2.1 75 = .ok (.iload_n 1, 1) := by decide +kernel
theorem d_M_about_76 : decode y_M_about.2.1 76 = .ok (.invokevirtual 183, 3) := by decide +kernel
theorem d_M_about_79 : decode y_M_about.2.1 79 = .ok (.ireturn, 1) := by decide +kernel
theorem d_M_about_80 : decode y_M_about.2.1 80 = .ok (.aload_n 0, 1) := by decide +kernel
theorem d_M_about_81 : decode y_M_about.2.1 81 = .ok (.iload_n 1, 1) := by decide +kernel
theorem d_M_about_82 : decode y_M_about.2.1 82 = .ok (.invokevirtual 138, 3) := by decide +kernel
theorem d_M_about_85 : decode y_M_about.2.1 85 = .ok (.ireturn, 1) := by decide +kernel
theorem d_M_about_86 : decode y_M_about.2.1 86 = .ok (.aload_n 0, 1) := by decide +kernel
theorem d_M_about_87 : decode y_M_about.2.1 87 = .ok (.iload_n 1, 1) := by decide +kernel
theorem d_M_about_88 : decode y_M_about.2.1 88 = .ok (.invokevirtual 141, 3) := by decide +kernel
theorem d_M_about_91 : decode y_M_about.2.1 91 = .ok (.invokestatic 33, 3) := by decide +kernel
theorem d_M_about_94 : decode y_M_about.2.1 94 = .ok (.ireturn, 1) := by decide +kernel
theorem d_M_open_0 : decode y_M_open.2.1 0 = .ok (.aload_n 0, 1) := by decide +kernel
theorem d_M_open_1 : decode y_M_open.2.1 1 = .ok (.iconst 0, 1) := by decide +kernel
theorem d_M_open_2 : decode y_M_open.2.1 2 = .ok (.putfield 3, 3) := by decide +kernel
theorem d_M_open_5 : decode y_M_open.2.1 5 = .ok (.iload_n 1, 1) := by decide +kernel
theorem d_M_open_6 : decode y_M_open.2.1 6 = .ok (.invokestatic 194, 3) := by decide +kernel
theorem d_M_open_9 : decode y_M_open.2.1 9 = .ok (.ifCond .eq 12, 3) := by decide +kernel
theorem d_M_open_12 : decode y_M_open.2.1 12 = .ok (.aload_n 0, 1) := by decide +kernel
theorem d_M_open_13 : decode y_M_open.2.1 13 = .ok (.getfield 154, 3) := by decide +kernel
theorem d_M_open_16 : decode y_M_open.2.1 16 = .ok (.iload_n 1, 1) := by decide +kernel
theorem d_M_open_17 : decode y_M_open.2.1 17 = .ok (.iaload, 1) := by decide +kernel
theorem d_M_open_18 : decode y_M_open.2.1 18 = .ok (.goto 4, 3) := by decide +kernel
theorem d_M_open_21 : decode y_M_open.2.1 21 = .ok (.iconst (-1), 1) := by decide +kernel
theorem d_M_open_22 : decode y_M_open.2.1 22 = .ok (.ireturn, 1) := by decide +kernel
theorem d_M_value_0 : decode y_M_value.2.1 0 = .ok (.aload_n 0, 1) := by decide +kernel
theorem d_M_value_1 : decode y_M_value.2.1 1 = .ok (.iconst 0, 1) := by decide +kernel
theorem d_M_value_2 : decode y_M_value.2.1 2 = .ok (.putfield 3, 3) := by decide +kernel
theorem d_M_value_5 : decode y_M_value.2.1 5 = .ok (.aload_n 0, 1) := by decide +kernel
theorem d_M_value_6 : decode y_M_value.2.1 6 = .ok (.iload_n 1, 1) := by decide +kernel
theorem d_M_value_7 : decode y_M_value.2.1 7 = .ok (.invokevirtual 189, 3) := by decide +kernel
theorem d_M_value_10 : decode y_M_value.2.1 10 = .ok (.ifCond .eq 10, 3) := by decide +kernel
theorem d_M_value_13 : decode y_M_value.2.1 13 = .ok (.iload_n 2, 1) := by decide +kernel
theorem d_M_value_14 : decode y_M_value.2.1 14 = .ok (.invokestatic 194, 3) := by decide +kernel
theorem d_M_value_17 : decode y_M_value.2.1 17 = .ok (.ifCond .ne 8, 3) := by decide +kernel
theorem d_M_value_20 : decode y_M_value.2.1 20 = .ok (.aload_n 0, 1) := by decide +kernel
theorem d_M_value_21 : decode y_M_value.2.1 21 = .ok (.invokevirtual 209, 3) := by decide +kernel
theorem d_M_value_24 : decode y_M_value.2.1 24 = .ok (.ireturn, 1) := by decide +kernel
theorem d_M_value_25 : decode y_M_value.2.1 25 = .ok (.aload_n 0, 1) := by decide +kernel
theorem d_M_value_26 : decode y_M_value.2.1 26 = .ok (.iload_n 1, 1) := by decide +kernel
theorem d_M_value_27 : decode y_M_value.2.1 27 = .ok (.iload_n 2, 1) := by decide +kernel
theorem d_M_value_28 : decode y_M_value.2.1 28 = .ok (.aload_n 0, 1) := by decide +kernel
theorem d_M_value_29 : decode y_M_value.2.1 29 = .ok (.getfield 154, 3) := by decide +kernel
theorem d_M_value_32 : decode y_M_value.2.1 32 = .ok (.iload_n 2, 1) := by decide +kernel
theorem d_M_value_33 : decode y_M_value.2.1 33 = .ok (.iaload, 1) := by decide +kernel
theorem d_M_value_34 : decode y_M_value.2.1 34 = .ok (.invokevirtual 147, 3) := by decide +kernel
theorem d_M_value_37 : decode y_M_value.2.1 37 = .ok (.ireturn, 1) := by decide +kernel
theorem d_M_isAct_0 : decode y_M_isAct.2.1 0 = .ok (.iload_n 1, 1) := by decide +kernel
theorem d_M_isAct_1 : decode y_M_isAct.2.1 1 = .ok (.i2l, 1) := by decide +kernel
theorem d_M_isAct_2 : decode y_M_isAct.2.1 2 = .ok (.lconst 0, 1) := by decide +kernel
theorem d_M_isAct_3 : decode y_M_isAct.2.1 3 = .ok (.ldc2_w 212, 3) := by decide +kernel
theorem d_M_isAct_6 : decode y_M_isAct.2.1 6 = .ok (.invokestatic 17, 3) := by decide +kernel
theorem d_M_isAct_9 : decode y_M_isAct.2.1 9 = .ok (.ifCond .eq 18, 3) := by decide +kernel
theorem d_M_isAct_12 : decode y_M_isAct.2.1 12 = .ok (.aload_n 0, 1) := by decide +kernel
theorem d_M_isAct_13 : decode y_M_isAct.2.1 13 = .ok (.iload_n 1, 1) := by decide +kernel
theorem d_M_isAct_14 : decode y_M_isAct.2.1 14 = .ok (.bipush 20, 2) := by decide +kernel
theorem d_M_isAct_16 : decode y_M_isAct.2.1 16 = .ok (.irem, 1) := by decide +kernel
theorem d_M_isAct_17 : decode y_M_isAct.2.1 17 = .ok (.invokevirtual 189, 3) := by decide +kernel
theorem d_M_isAct_20 : decode y_M_isAct.2.1 20 = .ok (.ifCond .eq 7, 3) := by decide +kernel
theorem d_M_isAct_23 : decode y_M_isAct.2.1 23 = .ok (.iconst 1, 1) := by decide +kernel
theorem d_M_isAct_24 : decode y_M_isAct.2.1 24 = .ok (.goto 4, 3) := by decide +kernel
theorem d_M_isAct_27 : decode y_M_isAct.2.1 27 = .ok (.iconst 0, 1) := by decide +kernel
theorem d_M_isAct_28 : decode y_M_isAct.2.1 28 = .ok (.ireturn, 1) := by decide +kernel
theorem d_M_whyNot_0 : decode y_M_whyNot.2.1 0 = .ok (.iload_n 1, 1) := by decide +kernel
theorem d_M_whyNot_1 : decode y_M_whyNot.2.1 1 = .ok (.bipush 20, 2) := by decide +kernel
theorem d_M_whyNot_3 : decode y_M_whyNot.2.1 3 = .ok (.irem, 1) := by decide +kernel
theorem d_M_whyNot_4 : decode y_M_whyNot.2.1 4 = .ok (.istore_n 2, 1) := by decide +kernel
theorem d_M_whyNot_5 : decode y_M_whyNot.2.1 5 = .ok (.aload_n 0, 1) := by decide +kernel
theorem d_M_whyNot_6 : decode y_M_whyNot.2.1 6 = .ok (.iload_n 2, 1) := by decide +kernel
theorem d_M_whyNot_7 : decode y_M_whyNot.2.1 7 = .ok (.invokevirtual 183, 3) := by decide +kernel
theorem d_M_whyNot_10 : decode y_M_whyNot.2.1 10 = .ok (.istore_n 3, 1) := by decide +kernel
theorem d_M_whyNot_11 : decode y_M_whyNot.2.1 11 = .ok (.iload_n 1, 1) := by decide +kernel
theorem d_M_whyNot_12 : decode y_M_whyNot.2.1 12 = .ok (.bipush 60, 2) := by decide +kernel
theorem d_M_whyNot_14 : decode y_M_whyNot.2.1 14 = .ok (.if_icmp .ge 42, 3) := by decide +kernel
theorem d_M_whyNot_17 : decode y_M_whyNot.2.1 17 = .ok (.iload_n 3, 1) := by decide +kernel
theorem d_M_whyNot_18 : decode y_M_whyNot.2.1 18 = .ok (.ifCond .lt 8, 3) := by decide +kernel
theorem d_M_whyNot_21 : decode y_M_whyNot.2.1 21 = .ok (.bipush (-2), 2) := by decide +kernel
theorem d_M_whyNot_23 : decode y_M_whyNot.2.1 23 = .ok (.goto 32, 3) := by decide +kernel
theorem d_M_whyNot_26 : decode y_M_whyNot.2.1 26 = .ok (.aload_n 0, 1) := by decide +kernel
theorem d_M_whyNot_27 : decode y_M_whyNot.2.1 27 = .ok (.getfield 176, 3) := by decide +kernel
theorem d_M_whyNot_30 : decode y_M_whyNot.2.1 30 = .ok (.iload_n 2, 1) := by decide +kernel
theorem d_M_whyNot_31 : decode y_M_whyNot.2.1 31 = .ok (.iaload, 1) := by decide +kernel
theorem d_M_whyNot_32 : decode y_M_whyNot.2.1 32 = .ok (.aload_n 0, 1) := by decide +kernel
theorem d_M_whyNot_33 : decode y_M_whyNot.2.1 33 = .ok (.getfield 173, 3) := by decide +kernel
theorem d_M_whyNot_36 : decode y_M_whyNot.2.1 36 = .ok (.iload_n 2, 1) := by decide +kernel
theorem d_M_whyNot_37 : decode y_M_whyNot.2.1 37 = .ok (.iaload, 1) := by decide +kernel
theorem d_M_whyNot_38 : decode y_M_whyNot.2.1 38 = .ok (.if_icmp .lt 8, 3) := by decide +kernel
theorem d_M_whyNot_41 : decode y_M_whyNot.2.1 41 = .ok (.bipush (-3), 2) := by decide +kernel
theorem d_M_whyNot_43 : decode y_M_whyNot.2.1 43 = .ok (.goto 12, 3) := by decide +kernel
theorem d_M_whyNot_46 : decode y_M_whyNot.2.1 46 = .ok (.aload_n 0, 1) := by decide +kernel
theorem d_M_whyNot_47 : decode y_M_whyNot.2.1 47 = .ok (.iload_n 2, 1) := by decide +kernel
theorem d_M_whyNot_48 : decode y_M_whyNot.2.1 48 = .ok (.iload_n 1, 1) := by decide +kernel
theorem d_M_whyNot_49 : decode y_M_whyNot.2.1 49 = .ok (.bipush 20, 2) := by decide +kernel
theorem d_M_whyNot_51 : decode y_M_whyNot.2.1 51 = .ok (.idiv, 1) := by decide +kernel
theorem d_M_whyNot_52 : decode y_M_whyNot.2.1 52 = .ok (.invokevirtual 214, 3) := by decide +kernel
theorem d_M_whyNot_55 : decode y_M_whyNot.2.1 55 = .ok (.ireturn, 1) := by decide +kernel
theorem d_M_whyNot_56 : decode y_M_whyNot.2.1 56 = .ok (.iload_n 1, 1) := by decide +kernel
theorem d_M_whyNot_57 : decode y_M_whyNot.2.1 57 = .ok (.bipush 80, 2) := by decide +kernel
theorem d_M_whyNot_59 : decode y_M_whyNot.2.1 59 = .ok (.if_icmp .ge 14, 3) := by decide +kernel
theorem d_M_whyNot_62 : decode y_M_whyNot.2.1 62 = .ok (.iload_n 3, 1) := by decide +kernel
theorem d_M_whyNot_63 : decode y_M_whyNot.2.1 63 = .ok (.ifCond .ge 8, 3) := by decide +kernel
theorem d_M_whyNot_66 : decode y_M_whyNot.2.1 66 = .ok (.bipush (-2), 2) := by decide +kernel
theorem d_M_whyNot_68 : decode y_M_whyNot.2.1 68 = .ok (.goto 4, 3) := by decide +kernel
theorem d_M_whyNot_71 : decode y_M_whyNot.2.1 71 = .ok (.iconst 0, 1) := by decide +kernel
theorem d_M_whyNot_72 : decode y_M_whyNot.2.1 72 = .ok (.ireturn, 1) := by decide +kernel
theorem d_M_whyNot_73 : decode y_M_whyNot.2.1 73 = .ok (.iload_n 3, 1) := by decide +kernel
theorem d_M_whyNot_74 : decode y_M_whyNot.2.1 74 = .ok (.ifCond .lt 13, 3) := by decide +kernel
theorem d_M_whyNot_77 : decode y_M_whyNot.2.1 77 = .ok (.iload_n 3, 1) := by decide +kernel
theorem d_M_whyNot_78 : decode y_M_whyNot.2.1 78 = .ok (.iload_n 1, 1) := by decide +kernel
theorem d_M_whyNot_79 : decode y_M_whyNot.2.1 79 = .ok (.bipush 20, 2) := by decide +kernel
theorem d_M_whyNot_81 : decode y_M_whyNot.2.1 81 = .ok (.idiv, 1) := by decide +kernel
theorem d_M_whyNot_82 : decode y_M_whyNot.2.1 82 = .ok (.iconst 4, 1) := by decide +kernel
theorem d_M_whyNot_83 : decode y_M_whyNot.2.1 83 = .ok (.isub, 1) := by decide +kernel
theorem d_M_whyNot_84 : decode y_M_whyNot.2.1 84 = .ok (.if_icmp .ne 8, 3) := by decide +kernel
theorem d_M_whyNot_87 : decode y_M_whyNot.2.1 87 = .ok (.bipush (-2), 2) := by decide +kernel
theorem d_M_whyNot_89 : decode y_M_whyNot.2.1 89 = .ok (.goto 14, 3) := by decide +kernel
theorem d_M_whyNot_92 : decode y_M_whyNot.2.1 92 = .ok (.aload_n 0, 1) := by decide +kernel
theorem d_M_whyNot_93 : decode y_M_whyNot.2.1 93 = .ok (.iload_n 2, 1) := by decide +kernel
theorem d_M_whyNot_94 : decode y_M_whyNot.2.1 94 = .ok (.iload_n 1, 1) := by decide +kernel
theorem d_M_whyNot_95 : decode y_M_whyNot.2.1 95 = .ok (.bipush 20, 2) := by decide +kernel
theorem d_M_whyNot_97 : decode y_M_whyNot.2.1 97 = .ok (.idiv, 1) := by decide +kernel
theorem d_M_whyNot_98 : decode y_M_whyNot.2.1 98 = .ok (.iconst 4, 1) := by decide +kernel
theorem d_M_whyNot_99 : decode y_M_whyNot.2.1 99 = .ok (.isub, 1) := by decide +kernel
theorem d_M_whyNot_100 : decode y_M_whyNot.2.1 100 = .ok (.invokevirtual 214, 3) := by decide +kernel
theorem d_M_whyNot_103 : decode y_M_whyNot.2.1 103 = .ok (.ireturn, 1) := by decide +kernel
theorem d_M_noPlace_0 : decode y_M_noPlace.2.1 0 = .ok (.aload_n 0, 1) := by decide +kernel
theorem d_M_noPlace_1 : decode y_M_noPlace.2.1 1 = .ok (.getfield 154, 3) := by decide +kernel
theorem d_M_noPlace_4 : decode y_M_noPlace.2.1 4 = .ok (.iload_n 2, 1) := by decide +kernel
theorem d_M_noPlace_5 : decode y_M_noPlace.2.1 5 = .ok (.iaload, 1) := by decide +kernel
theorem d_M_noPlace_6 : decode y_M_noPlace.2.1 6 = .ok (.invokestatic 118, 3) := by decide +kernel
theorem d_M_noPlace_9 : decode y_M_noPlace.2.1 9 = .ok (.aload_n 0, 1) := by decide +kernel
theorem d_M_noPlace_10 : decode y_M_noPlace.2.1 10 = .ok (.getfield 199, 3) := by decide +kernel
theorem d_M_noPlace_13 : decode y_M_noPlace.2.1 13 = .ok (.iload_n 2, 1) := by decide +kernel
theorem d_M_noPlace_14 : decode y_M_noPlace.2.1 14 = .ok (.iaload, 1) := by decide +kernel
theorem d_M_noPlace_15 : decode y_M_noPlace.2.1 15 = .ok (.if_icmp .lt 8, 3) := by decide +kernel
theorem d_M_noPlace_18 : decode y_M_noPlace.2.1 18 = .ok (.bipush (-4), 2) := by decide +kernel
theorem d_M_noPlace_20 : decode y_M_noPlace.2.1 20 = .ok (.goto 24, 3) := by decide +kernel
theorem d_M_noPlace_23 : decode y_M_noPlace.2.1 23 = .ok (.aload_n 0, 1) := by decide +kernel
theorem d_M_noPlace_24 : decode y_M_noPlace.2.1 24 = .ok (.iload_n 1, 1) := by decide +kernel
theorem d_M_noPlace_25 : decode y_M_noPlace.2.1 25 = .ok (.iload_n 2, 1) := by decide +kernel
theorem d_M_noPlace_26 : decode y_M_noPlace.2.1 26 = .ok (.aload_n 0, 1) := by decide +kernel
theorem d_M_noPlace_27 : decode y_M_noPlace.2.1 27 = .ok (.getfield 154, 3) := by decide +kernel
theorem d_M_noPlace_30 : decode y_M_noPlace.2.1 30 = .ok (.iload_n 2, 1) := by decide +kernel
theorem d_M_noPlace_31 : decode y_M_noPlace.2.1 31 = .ok (.iaload, 1) := by decide +kernel
theorem d_M_noPlace_32 : decode y_M_noPlace.2.1 32 = .ok (.invokevirtual 150, 3) := by decide +kernel
theorem d_M_noPlace_35 : decode y_M_noPlace.2.1 35 = .ok (.ifCond .eq 7, 3) := by decide +kernel
theorem d_M_noPlace_38 : decode y_M_noPlace.2.1 38 = .ok (.iconst 0, 1) := by decide +kernel
theorem d_M_noPlace_39 : decode y_M_noPlace.2.1 39 = .ok (.goto 5, 3) := by decide +kernel
theorem d_M_noPlace_42 : decode y_M_noPlace.2.1 42 = .ok (.bipush (-5), 2) := by decide +kernel
theorem d_M_noPlace_44 : decode y_M_noPlace.2.1 44 = .ok (.ireturn, 1) := by decide +kernel
theorem d_M_shut_0 : decode y_M_shut.2.1 0 = .ok (.aload_n 0, 1) := by decide +kernel
theorem d_M_shut_1 : decode y_M_shut.2.1 1 = .ok (.iload_n 1, 1) := by decide +kernel
theorem d_M_shut_2 : decode y_M_shut.2.1 2 = .ok (.invokevirtual 183, 3) := by decide +kernel
theorem d_M_shut_5 : decode y_M_shut.2.1 5 = .ok (.istore_n 2, 1) := by decide +kernel
theorem d_M_shut_6 : decode y_M_shut.2.1 6 = .ok (.aload_n 0, 1) := by decide +kernel
theorem d_M_shut_7 : decode y_M_shut.2.1 7 = .ok (.getfield 154, 3) := by decide +kernel
theorem d_M_shut_10 : decode y_M_shut.2.1 10 = .ok (.iload_n 2, 1) := by decide +kernel
theorem d_M_shut_11 : decode y_M_shut.2.1 11 = .ok (.iaload, 1) := by decide +kernel
theorem d_M_shut_12 : decode y_M_shut.2.1 12 = .ok (.iconst 1, 1) := by decide +kernel
theorem d_M_shut_13 : decode y_M_shut.2.1 13 = .ok (.iload_n 1, 1) := by decide +kernel
theorem d_M_shut_14 : decode y_M_shut.2.1 14 = .ok (.ishl, 1) := by decide +kernel
theorem d_M_shut_15 : decode y_M_shut.2.1 15 = .ok (.iconst (-1), 1) := by decide +kernel
theorem d_M_shut_16 : decode y_M_shut.2.1 16 = .ok (.ixor, 1) := by decide +kernel
theorem d_M_shut_17 : decode y_M_shut.2.1 17 = .ok (.iand, 1) := by decide +kernel
theorem d_M_shut_18 : decode y_M_shut.2.1 18 = .ok (.istore_n 3, 1) := by decide +kernel
theorem d_M_shut_19 : decode y_M_shut.2.1 19 = .ok (.aload_n 0, 1) := by decide +kernel
theorem d_M_shut_20 : decode y_M_shut.2.1 20 = .ok (.getfield 154, 3) := by decide +kernel
theorem d_M_shut_23 : decode y_M_shut.2.1 23 = .ok (.iload_n 2, 1) := by decide +kernel
theorem d_M_shut_24 : decode y_M_shut.2.1 24 = .ok (.aload_n 0, 1) := by decide +kernel
theorem d_M_shut_25 : decode y_M_shut.2.1 25 = .ok (.iload_n 2, 1) := by decide +kernel
theorem d_M_shut_26 : decode y_M_shut.2.1 26 = .ok (.iload_n 3, 1) := by decide +kernel
theorem d_M_shut_27 : decode y_M_shut.2.1 27 = .ok (.invokevirtual 186, 3) := by decide +kernel
theorem d_M_shut_30 : decode y_M_shut.2.1 30 = .ok (.iastore, 1) := by decide +kernel
theorem d_M_shut_31 : decode y_M_shut.2.1 31 = .ok (.iload_n 3, 1) := by decide +kernel
theorem d_M_shut_32 : decode y_M_shut.2.1 32 = .ok (.aload_n 0, 1) := by decide +kernel
theorem d_M_shut_33 : decode y_M_shut.2.1 33 = .ok (.getfield 154, 3) := by decide +kernel
theorem d_M_shut_36 : decode y_M_shut.2.1 36 = .ok (.iload_n 2, 1) := by decide +kernel
theorem d_M_shut_37 : decode y_M_shut.2.1 37 = .ok (.iaload, 1) := by decide +kernel
theorem d_M_shut_38 : decode y_M_shut.2.1 38 = .ok (.iconst (-1), 1) := by decide +kernel
theorem d_M_shut_39 : decode y_M_shut.2.1 39 = .ok (.ixor, 1) := by decide +kernel
theorem d_M_shut_40 : decode y_M_shut.2.1 40 = .ok (.iand, 1) := by decide +kernel
theorem d_M_shut_41 : decode y_M_shut.2.1 41 = .ok (.ireturn, 1) := by decide +kernel
theorem d_M_opens_0 : decode y_M_opens.2.1 0 = .ok (.aload_n 0, 1) := by decide +kernel
theorem d_M_opens_1 : decode y_M_opens.2.1 1 = .ok (.getfield 154, 3) := by decide +kernel
theorem d_M_opens_4 : decode y_M_opens.2.1 4 = .ok (.iload_n 2, 1) := by decide +kernel
theorem d_M_opens_5 : decode y_M_opens.2.1 5 = .ok (.iaload, 1) := by decide +kernel
theorem d_M_opens_6 : decode y_M_opens.2.1 6 = .ok (.iconst 1, 1) := by decide +kernel
theorem d_M_opens_7 : decode y_M_opens.2.1 7 = .ok (.iload_n 1, 1) := by decide +kernel
theorem d_M_opens_8 : decode y_M_opens.2.1 8 = .ok (.ishl, 1) := by decide +kernel
theorem d_M_opens_9 : decode y_M_opens.2.1 9 = .ok (.ior, 1) := by decide +kernel
theorem d_M_opens_10 : decode y_M_opens.2.1 10 = .ok (.istore_n 3, 1) := by decide +kernel
theorem d_M_opens_11 : decode y_M_opens.2.1 11 = .ok (.aload_n 0, 1) := by decide +kernel
theorem d_M_opens_12 : decode y_M_opens.2.1 12 = .ok (.getfield 154, 3) := by decide +kernel
theorem d_M_opens_15 : decode y_M_opens.2.1 15 = .ok (.iload_n 2, 1) := by decide +kernel
theorem d_M_opens_16 : decode y_M_opens.2.1 16 = .ok (.aload_n 0, 1) := by decide +kernel
theorem d_M_opens_17 : decode y_M_opens.2.1 17 = .ok (.iload_n 2, 1) := by decide +kernel
theorem d_M_opens_18 : decode y_M_opens.2.1 18 = .ok (.iload_n 3, 1) := by decide +kernel
theorem d_M_opens_19 : decode y_M_opens.2.1 19 = .ok (.invokevirtual 186, 3) := by decide +kernel
theorem d_M_opens_22 : decode y_M_opens.2.1 22 = .ok (.iastore, 1) := by decide +kernel
theorem d_M_opens_23 : decode y_M_opens.2.1 23 = .ok (.iload_n 3, 1) := by decide +kernel
theorem d_M_opens_24 : decode y_M_opens.2.1 24 = .ok (.aload_n 0, 1) := by decide +kernel
theorem d_M_opens_25 : decode y_M_opens.2.1 25 = .ok (.getfield 154, 3) := by decide +kernel
theorem d_M_opens_28 : decode y_M_opens.2.1 28 = .ok (.iload_n 2, 1) := by decide +kernel
theorem d_M_opens_29 : decode y_M_opens.2.1 29 = .ok (.iaload, 1) := by decide +kernel
theorem d_M_opens_30 : decode y_M_opens.2.1 30 = .ok (.iconst (-1), 1) := by decide +kernel
theorem d_M_opens_31 : decode y_M_opens.2.1 31 = .ok (.ixor, 1) := by decide +kernel
theorem d_M_opens_32 : decode y_M_opens.2.1 32 = .ok (.iand, 1) := by decide +kernel
theorem d_M_opens_33 : decode y_M_opens.2.1 33 = .ok (.ireturn, 1) := by decide +kernel
theorem d_M_makes_0 : decode y_M_makes.2.1 0 = .ok (.iload_n 1, 1) := by decide +kernel
theorem d_M_makes_1 : decode y_M_makes.2.1 1 = .ok (.bipush 20, 2) := by decide +kernel
theorem d_M_makes_3 : decode y_M_makes.2.1 3 = .ok (.irem, 1) := by decide +kernel
theorem d_M_makes_4 : decode y_M_makes.2.1 4 = .ok (.istore_n 2, 1) := by decide +kernel
theorem d_M_makes_5 : decode y_M_makes.2.1 5 = .ok (.iload_n 1, 1) := by decide +kernel
theorem d_M_makes_6 : decode y_M_makes.2.1 6 = .ok (.bipush 60, 2) := by decide +kernel
theorem d_M_makes_8 : decode y_M_makes.2.1 8 = .ok (.if_icmp .ge 23, 3) := by decide +kernel
theorem d_M_makes_11 : decode y_M_makes.2.1 11 = .ok (.aload_n 0, 1) := by decide +kernel
theorem d_M_makes_12 : decode y_M_makes.2.1 12 = .ok (.getfield 176, 3) := by decide +kernel
theorem d_M_makes_15 : decode y_M_makes.2.1 15 = .ok (.iload_n 2, 1) := by decide +kernel
theorem d_M_makes_16 : decode y_M_makes.2.1 16 = .ok (.dup2, 1) := by decide +kernel
theorem d_M_makes_17 : decode y_M_makes.2.1 17 = .ok (.iaload, 1) := by decide +kernel
theorem d_M_makes_18 : decode y_M_makes.2.1 18 = .ok (.iconst 1, 1) := by decide +kernel
theorem d_M_makes_19 : decode y_M_makes.2.1 19 = .ok (.iadd, 1) := by decide +kernel
theorem d_M_makes_20 : decode y_M_makes.2.1 20 = .ok (.iastore, 1) := by decide +kernel
theorem d_M_makes_21 : decode y_M_makes.2.1 21 = .ok (.aload_n 0, 1) := by decide +kernel
theorem d_M_makes_22 : decode y_M_makes.2.1 22 = .ok (.iload_n 2, 1) := by decide +kernel
theorem d_M_makes_23 : decode y_M_makes.2.1 23 = .ok (.iload_n 1, 1) := by decide +kernel
theorem d_M_makes_24 : decode y_M_makes.2.1 24 = .ok (.bipush 20, 2) := by decide +kernel
theorem d_M_makes_26 : decode y_M_makes.2.1 26 = .ok (.idiv, 1) := by decide +kernel
theorem d_M_makes_27 : decode y_M_makes.2.1 27 = .ok (.invokevirtual 217, 3) := by decide +kernel
theorem d_M_makes_30 : decode y_M_makes.2.1 30 = .ok (.ireturn, 1) := by decide +kernel
theorem d_M_makes_31 : decode y_M_makes.2.1 31 = .ok (.aload_n 0, 1) := by decide +kernel
theorem d_M_makes_32 : decode y_M_makes.2.1 32 = .ok (.iload_n 2, 1) := by decide +kernel
theorem d_M_makes_33 : decode y_M_makes.2.1 33 = .ok (.invokevirtual 220, 3) := by decide +kernel
theorem d_M_makes_36 : decode y_M_makes.2.1 36 = .ok (.istore_n 3, 1) := by decide +kernel
theorem d_M_makes_37 : decode y_M_makes.2.1 37 = .ok (.iload_n 1, 1) := by decide +kernel
theorem d_M_makes_38 : decode y_M_makes.2.1 38 = .ok (.bipush 80, 2) := by decide +kernel
theorem d_M_makes_40 : decode y_M_makes.2.1 40 = .ok (.if_icmp .ge 7, 3) := by decide +kernel
theorem d_M_makes_43 : decode y_M_makes.2.1 43 = .ok (.iload_n 3, 1) := by decide +kernel
theorem d_M_makes_44 : decode y_M_makes.2.1 44 = .ok (.goto 16, 3) := by decide +kernel
theorem d_M_makes_47 : decode y_M_makes.2.1 47 = .ok (.iload_n 3, 1) := by decide +kernel
theorem d_M_makes_48 : decode y_M_makes.2.1 48 = .ok (.aload_n 0, 1) := by decide +kernel
theorem d_M_makes_49 : decode y_M_makes.2.1 49 = .ok (.iload_n 2, 1) := by decide +kernel
theorem d_M_makes_50 : decode y_M_makes.2.1 50 = .ok (.iload_n 1, 1) := by decide +kernel
theorem d_M_makes_51 : decode y_M_makes.2.1 51 = .ok (.bipush 20, 2) := by decide +kernel
theorem d_M_makes_53 : decode y_M_makes.2.1 53 = .ok (.idiv, 1) := by decide +kernel
theorem d_M_makes_54 : decode y_M_makes.2.1 54 = .ok (.iconst 4, 1) := by decide +kernel
theorem d_M_makes_55 : decode y_M_makes.2.1 55 = .ok (.isub, 1) := by decide +kernel
theorem d_M_makes_56 : decode y_M_makes.2.1 56 = .ok (.invokevirtual 217, 3) := by decide +kernel
theorem d_M_makes_59 : decode y_M_makes.2.1 59 = .ok (.ior, 1) := by decide +kernel
theorem d_M_makes_60 : decode y_M_makes.2.1 60 = .ok (.ireturn, 1) := by decide +kernel
theorem d_M_act_0 : decode y_M_act.2.1 0 = .ok (.aload_n 0, 1) := by decide +kernel
theorem d_M_act_1 : decode y_M_act.2.1 1 = .ok (.iconst 0, 1) := by decide +kernel
theorem d_M_act_2 : decode y_M_act.2.1 2 = .ok (.putfield 3, 3) := by decide +kernel
theorem d_M_act_5 : decode y_M_act.2.1 5 = .ok (.aload_n 0, 1) := by decide +kernel
theorem d_M_act_6 : decode y_M_act.2.1 6 = .ok (.iload_n 1, 1) := by decide +kernel
theorem d_M_act_7 : decode y_M_act.2.1 7 = .ok (.invokevirtual 223, 3) := by decide +kernel
theorem d_M_act_10 : decode y_M_act.2.1 10 = .ok (.ifCond .ne 5, 3) := by decide +kernel
theorem d_M_act_13 : decode y_M_act.2.1 13 = .ok (.iconst (-1), 1) := by decide +kernel
theorem d_M_act_14 : decode y_M_act.2.1 14 = .ok (.ireturn, 1) := by decide +kernel
theorem d_M_act_15 : decode y_M_act.2.1 15 = .ok (.aload_n 0, 1) := by decide +kernel
theorem d_M_act_16 : decode y_M_act.2.1 16 = .ok (.iload_n 1, 1) := by decide +kernel
theorem d_M_act_17 : decode y_M_act.2.1 17 = .ok (.invokevirtual 226, 3) := by decide +kernel
theorem d_M_act_20 : decode y_M_act.2.1 20 = .ok (.istore_n 2, 1) := by decide +kernel
theorem d_M_act_21 : decode y_M_act.2.1 21 = .ok (.iload_n 2, 1) := by decide +kernel
theorem d_M_act_22 : decode y_M_act.2.1 22 = .ok (.ifCond .ge 7, 3) := by decide +kernel
theorem d_M_act_25 : decode y_M_act.2.1 25 = .ok (.iload_n 2, 1) := by decide +kernel
theorem d_M_act_26 : decode y_M_act.2.1 26 = .ok (.goto 8, 3) := by decide +kernel
theorem d_M_act_29 : decode y_M_act.2.1 29 = .ok (.aload_n 0, 1) := by decide +kernel
theorem d_M_act_30 : decode y_M_act.2.1 30 = .ok (.iload_n 1, 1) := by decide +kernel
theorem d_M_act_31 : decode y_M_act.2.1 31 = .ok (.invokevirtual 229, 3) := by decide +kernel
theorem d_M_act_34 : decode y_M_act.2.1 34 = .ok (.ireturn, 1) := by decide +kernel
theorem d_M_why_0 : decode y_M_why.2.1 0 = .ok (.aload_n 0, 1) := by decide +kernel
theorem d_M_why_1 : decode y_M_why.2.1 1 = .ok (.iconst 0, 1) := by decide +kernel
theorem d_M_why_2 : decode y_M_why.2.1 2 = .ok (.putfield 3, 3) := by decide +kernel
theorem d_M_why_5 : decode y_M_why.2.1 5 = .ok (.aload_n 0, 1) := by decide +kernel
theorem d_M_why_6 : decode y_M_why.2.1 6 = .ok (.iload_n 1, 1) := by decide +kernel
theorem d_M_why_7 : decode y_M_why.2.1 7 = .ok (.invokevirtual 223, 3) := by decide +kernel
theorem d_M_why_10 : decode y_M_why.2.1 10 = .ok (.ifCond .eq 11, 3) := by decide +kernel
theorem d_M_why_13 : decode y_M_why.2.1 13 = .ok (.aload_n 0, 1) := by decide +kernel
theorem d_M_why_14 : decode y_M_why.2.1 14 = .ok (.iload_n 1, 1) := by decide +kernel
theorem d_M_why_15 : decode y_M_why.2.1 15 = .ok (.invokevirtual 226, 3) := by decide +kernel
theorem d_M_why_18 : decode y_M_why.2.1 18 = .ok (.goto 4, 3) := by decide +kernel
theorem d_M_why_21 : decode y_M_why.2.1 21 = .ok (.iconst (-1), 1) := by decide +kernel
theorem d_M_why_22 : decode y_M_why.2.1 22 = .ok (.ireturn, 1) := by decide +kernel
theorem d_M_can_0 : decode y_M_can.2.1 0 = .ok (.aload_n 0, 1) := by decide +kernel
theorem d_M_can_1 : decode y_M_can.2.1 1 = .ok (.iconst 0, 1) := by decide +kernel
theorem d_M_can_2 : decode y_M_can.2.1 2 = .ok (.putfield 3, 3) := by decide +kernel
theorem d_M_can_5 : decode y_M_can.2.1 5 = .ok (.aload_n 0, 1) := by decide +kernel
theorem d_M_can_6 : decode y_M_can.2.1 6 = .ok (.iconst 0, 1) := by decide +kernel
theorem d_M_can_7 : decode y_M_can.2.1 7 = .ok (.putfield 11, 3) := by decide +kernel
theorem d_M_can_10 : decode y_M_can.2.1 10 = .ok (.iconst 0, 1) := by decide +kernel
theorem d_M_can_11 : decode y_M_can.2.1 11 = .ok (.istore_n 1, 1) := by decide +kernel
theorem d_M_can_12 : decode y_M_can.2.1 12 = .ok (.iconst 0, 1) := by decide +kernel
theorem d_M_can_13 : decode y_M_can.2.1 13 = .ok (.istore_n 2, 1) := by decide +kernel
theorem d_M_can_14 : decode y_M_can.2.1 14 = .ok (.iload_n 2, 1) := by decide +kernel
theorem d_M_can_15 : decode y_M_can.2.1 15 = .ok (.sipush 140, 3) := by decide +kernel
theorem d_M_can_18 : decode y_M_can.2.1 18 = .ok (.if_icmp .ge 53, 3) := by decide +kernel
theorem d_M_can_21 : decode y_M_can.2.1 21 = .ok (.aload_n 0, 1) := by decide +kernel
theorem d_M_can_22 : decode y_M_can.2.1 22 = .ok (.iload_n 2, 1) := by decide +kernel
theorem d_M_can_23 : decode y_M_can.2.1 23 = .ok (.invokevirtual 223, 3) := by decide +kernel
theorem d_M_can_26 : decode y_M_can.2.1 26 = .ok (.ifCond .eq 39, 3) := by decide +kernel
theorem d_M_can_29 : decode y_M_can.2.1 29 = .ok (.iload_n 2, 1) := by decide +kernel
theorem d_M_can_30 : decode y_M_can.2.1 30 = .ok (.i2l, 1) := by decide +kernel
theorem d_M_can_31 : decode y_M_can.2.1 31 = .ok (.ldc2_w 232, 3) := by decide +kernel
theorem d_M_can_34 : decode y_M_can.2.1 34 = .ok (.ldc2_w 234, 3) := by decide +kernel
theorem d_M_can_37 : decode y_M_can.2.1 37 = .ok (.invokestatic 17, 3) := by decide +kernel
theorem d_M_can_40 : decode y_M_can.2.1 40 = .ok (.ifCond .ne 25, 3) := by decide +kernel
theorem d_M_can_43 : decode y_M_can.2.1 43 = .ok (.aload_n 0, 1) := by decide +kernel
theorem d_M_can_44 : decode y_M_can.2.1 44 = .ok (.iload_n 2, 1) := by decide +kernel
theorem d_M_can_45 : decode y_M_can.2.1 45 = .ok (.invokevirtual 226, 3) := by decide +kernel
theorem d_M_can_48 : decode y_M_can.2.1 48 = .ok (.ifCond .ne 17, 3) := by decide +kernel
theorem d_M_can_51 : decode y_M_can.2.1 51 = .ok (.iload_n 1, 1) := by decide +kernel
theorem d_M_can_52 : decode y_M_can.2.1 52 = .ok (.bipush 8, 2) := by decide +kernel
theorem d_M_can_54 : decode y_M_can.2.1 54 = .ok (.if_icmp .ge 8, 3) := by decide +kernel
theorem d_M_can_57 : decode y_M_can.2.1 57 = .ok (.aload_n 0, 1) := by decide +kernel
theorem d_M_can_58 : decode y_M_can.2.1 58 = .ok (.iload_n 2, 1) := by decide +kernel
theorem d_M_can_59 : decode y_M_can.2.1 59 = .ok (.invokevirtual 236, 3) := by decide +kernel
theorem d_M_can_62 : decode y_M_can.2.1 62 = .ok (.iinc 1 1, 3) := by decide +kernel
theorem d_M_can_65 : decode y_M_can.2.1 65 = .ok (.iinc 2 1, 3) := by decide +kernel
theorem d_M_can_68 : decode y_M_can.2.1 68 = .ok (.goto (-54), 3) := by decide +kernel
theorem d_M_can_71 : decode y_M_can.2.1 71 = .ok (.iload_n 1, 1) := by decide +kernel
theorem d_M_can_72 : decode y_M_can.2.1 72 = .ok (.ireturn, 1) := by decide +kernel
theorem d_M_night_0 : decode y_M_night.2.1 0 = .ok (.aload_n 0, 1) := by decide +kernel
theorem d_M_night_1 : decode y_M_night.2.1 1 = .ok (.iconst 0, 1) := by decide +kernel
theorem d_M_night_2 : decode y_M_night.2.1 2 = .ok (.putfield 3, 3) := by decide +kernel
theorem d_M_night_5 : decode y_M_night.2.1 5 = .ok (.aload_n 0, 1) := by decide +kernel
theorem d_M_night_6 : decode y_M_night.2.1 6 = .ok (.iload_n 1, 1) := by decide +kernel
theorem d_M_night_7 : decode y_M_night.2.1 7 = .ok (.invokevirtual 239, 3) := by decide +kernel
theorem d_M_night_10 : decode y_M_night.2.1 10 = .ok (.ifCond .ne 5, 3) := by decide +kernel
theorem d_M_night_13 : decode y_M_night.2.1 13 = .ok (.iconst (-1), 1) := by decide +kernel
theorem d_M_night_14 : decode y_M_night.2.1 14 = .ok (.ireturn, 1) := by decide +kernel
theorem d_M_night_15 : decode y_M_night.2.1 15 = .ok (.iconst 0, 1) := by decide +kernel
theorem d_M_night_16 : decode y_M_night.2.1 16 = .ok (.istore_n 2, 1) := by decide +kernel
theorem d_M_night_17 : decode y_M_night.2.1 17 = .ok (.iconst 0, 1) := by decide +kernel
theorem d_M_night_18 : decode y_M_night.2.1 18 = .ok (.istore_n 3, 1) := by decide +kernel
theorem d_M_night_19 : decode y_M_night.2.1 19 = .ok (.iload_n 3, 1) := by decide +kernel
theorem d_M_night_20 : decode y_M_night.2.1 20 = .ok (.iconst 3, 1) := by decide +kernel
theorem d_M_night_21 : decode y_M_night.2.1 21 = .ok (.if_icmp .ge 37, 3) := by decide +kernel
theorem d_M_night_24 : decode y_M_night.2.1 24 = .ok (.aload_n 0, 1) := by decide +kernel
theorem d_M_night_25 : decode y_M_night.2.1 25 = .ok (.getfield 154, 3) := by decide +kernel
theorem d_M_night_28 : decode y_M_night.2.1 28 = .ok (.iload_n 3, 1) := by decide +kernel
theorem d_M_night_29 : decode y_M_night.2.1 29 = .ok (.aload_n 0, 1) := by decide +kernel
theorem d_M_night_30 : decode y_M_night.2.1 30 = .ok (.iload_n 3, 1) := by decide +kernel
theorem d_M_night_31 : decode y_M_night.2.1 31 = .ok (.aload_n 0, 1) := by decide +kernel
theorem d_M_night_32 : decode y_M_night.2.1 32 = .ok (.getfield 154, 3) := by decide +kernel
theorem d_M_night_35 : decode y_M_night.2.1 35 = .ok (.iload_n 3, 1) := by decide +kernel
theorem d_M_night_36 : decode y_M_night.2.1 36 = .ok (.iaload, 1) := by decide +kernel
theorem d_M_night_37 : decode y_M_night.2.1 37 = .ok (.iload_n 1, 1) := by decide +kernel
theorem d_M_night_38 : decode y_M_night.2.1 38 = .ok (.iand, 1) := by decide +kernel
theorem d_M_night_39 : decode y_M_night.2.1 39 = .ok (.invokevirtual 186, 3) := by decide +kernel
theorem d_M_night_42 : decode y_M_night.2.1 42 = .ok (.iastore, 1) := by decide +kernel
theorem d_M_night_43 : decode y_M_night.2.1 43 = .ok (.iload_n 2, 1) := by decide +kernel
theorem d_M_night_44 : decode y_M_night.2.1 44 = .ok (.aload_n 0, 1) := by decide +kernel
theorem d_M_night_45 : decode y_M_night.2.1 45 = .ok (.getfield 154, 3) := by decide +kernel
theorem d_M_night_48 : decode y_M_night.2.1 48 = .ok (.iload_n 3, 1) := by decide +kernel
theorem d_M_night_49 : decode y_M_night.2.1 49 = .ok (.iaload, 1) := by decide +kernel
theorem d_M_night_50 : decode y_M_night.2.1 50 = .ok (.ior, 1) := by decide +kernel
theorem d_M_night_51 : decode y_M_night.2.1 51 = .ok (.istore_n 2, 1) := by decide +kernel
theorem d_M_night_52 : decode y_M_night.2.1 52 = .ok (.iinc 3 1, 3) := by decide +kernel
theorem d_M_night_55 : decode y_M_night.2.1 55 = .ok (.goto (-36), 3) := by decide +kernel
theorem d_M_night_58 : decode y_M_night.2.1 58 = .ok (.iload_n 2, 1) := by decide +kernel
theorem d_M_night_59 : decode y_M_night.2.1 59 = .ok (.ireturn, 1) := by decide +kernel
theorem d_M_putsBy_0 : decode y_M_putsBy.2.1 0 = .ok (.iconst 0, 1) := by decide +kernel
theorem d_M_putsBy_1 : decode y_M_putsBy.2.1 1 = .ok (.istore_n 1, 1) := by decide +kernel
theorem d_M_putsBy_2 : decode y_M_putsBy.2.1 2 = .ok (.iload_n 1, 1) := by decide +kernel
theorem d_M_putsBy_3 : decode y_M_putsBy.2.1 3 = .ok (.iconst 3, 1) := by decide +kernel
theorem d_M_putsBy_4 : decode y_M_putsBy.2.1 4 = .ok (.if_icmp .ge 21, 3) := by decide +kernel
theorem d_M_putsBy_7 : decode y_M_putsBy.2.1 7 = .ok (.aload_n 0, 1) := by decide +kernel
theorem d_M_putsBy_8 : decode y_M_putsBy.2.1 8 = .ok (.getfield 242, 3) := by decide +kernel
theorem d_M_putsBy_11 : decode y_M_putsBy.2.1 11 = .ok (.iload_n 1, 1) := by decide +kernel
theorem d_M_putsBy_12 : decode y_M_putsBy.2.1 12 = .ok (.aload_n 0, 1) := by decide +kernel
theorem d_M_putsBy_13 : decode y_M_putsBy.2.1 13 = .ok (.getfield 154, 3) := by decide +kernel
theorem d_M_putsBy_16 : decode y_M_putsBy.2.1 16 = .ok (.iload_n 1, 1) := by decide +kernel
theorem d_M_putsBy_17 : decode y_M_putsBy.2.1 17 = .ok (.iaload, 1) := by decide +kernel
theorem d_M_putsBy_18 : decode y_M_putsBy.2.1 18 = .ok (.iastore, 1) := by decide +kernel
theorem d_M_putsBy_19 : decode y_M_putsBy.2.1 19 = .ok (.iinc 1 1, 3) := by decide +kernel
theorem d_M_putsBy_22 : decode y_M_putsBy.2.1 22 = .ok (.goto (-20), 3) := by decide +kernel
theorem d_M_putsBy_25 : decode y_M_putsBy.2.1 25 = .ok (.iconst 0, 1) := by decide +kernel
theorem d_M_putsBy_26 : decode y_M_putsBy.2.1 26 = .ok (.istore_n 1, 1) := by decide +kernel
theorem d_M_putsBy_27 : decode y_M_putsBy.2.1 27 = .ok (.iload_n 1, 1) := by decide +kernel
theorem d_M_putsBy_28 : decode y_M_putsBy.2.1 28 = .ok (.bipush 12, 2) := by decide +kernel
theorem d_M_putsBy_30 : decode y_M_putsBy.2.1 30 = .ok (.if_icmp .ge 21, 3) := by decide +kernel
theorem d_M_putsBy_33 : decode y_M_putsBy.2.1 33 = .ok (.aload_n 0, 1) := by decide +kernel
theorem d_M_putsBy_34 : decode y_M_putsBy.2.1 34 = .ok (.getfield 245, 3) := by decide +kernel
theorem d_M_putsBy_37 : decode y_M_putsBy.2.1 37 = .ok (.iload_n 1, 1) := by decide +kernel
theorem d_M_putsBy_38 : decode y_M_putsBy.2.1 38 = .ok (.aload_n 0, 1) := by decide +kernel
theorem d_M_putsBy_39 : decode y_M_putsBy.2.1 39 = .ok (.getfield 176, 3) := by decide +kernel
theorem d_M_putsBy_42 : decode y_M_putsBy.2.1 42 = .ok (.iload_n 1, 1) := by decide +kernel
theorem d_M_putsBy_43 : decode y_M_putsBy.2.1 43 = .ok (.iaload, 1) := by decide +kernel
theorem d_M_putsBy_44 : decode y_M_putsBy.2.1 44 = .ok (.iastore, 1) := by decide +kernel
theorem d_M_putsBy_45 : decode y_M_putsBy.2.1 45 = .ok (.iinc 1 1, 3) := by decide +kernel
theorem d_M_putsBy_48 : decode y_M_putsBy.2.1 48 = .ok (.goto (-21), 3) := by decide +kernel
theorem d_M_putsBy_51 : decode y_M_putsBy.2.1 51 = .ok (.return_, 1) := by decide +kernel
theorem d_M_putsBack_0 : decode y_M_putsBack.2.1 0 = .ok (.iconst 0, 1) := by decide +kernel
theorem d_M_putsBack_1 : decode y_M_putsBack.2.1 1 = .ok (.istore_n 1, 1) := by decide +kernel
theorem d_M_putsBack_2 : decode y_M_putsBack.2.1 2 = .ok (.iload_n 1, 1) := by decide +kernel
theorem d_M_putsBack_3 : decode y_M_putsBack.2.1 3 = .ok (.iconst 3, 1) := by decide +kernel
theorem d_M_putsBack_4 : decode y_M_putsBack.2.1 4 = .ok (.if_icmp .ge 21, 3) := by decide +kernel
theorem d_M_putsBack_7 : decode y_M_putsBack.2.1 7 = .ok (.aload_n 0, 1) := by decide +kernel
theorem d_M_putsBack_8 : decode y_M_putsBack.2.1 8 = .ok (.getfield 154, 3) := by decide +kernel
theorem d_M_putsBack_11 : decode y_M_putsBack.2.1 11 = .ok (.iload_n 1, 1) := by decide +kernel
theorem d_M_putsBack_12 : decode y_M_putsBack.2.1 12 = .ok (.aload_n 0, 1) := by decide +kernel
theorem d_M_putsBack_13 : decode y_M_putsBack.2.1 13 = .ok (.getfield 242, 3) := by decide +kernel
theorem d_M_putsBack_16 : decode y_M_putsBack.2.1 16 = .ok (.iload_n 1, 1) := by decide +kernel
theorem d_M_putsBack_17 : decode y_M_putsBack.2.1 17 = .ok (.iaload, 1) := by decide +kernel
theorem d_M_putsBack_18 : decode y_M_putsBack.2.1 18 = .ok (.iastore, 1) := by decide +kernel
theorem d_M_putsBack_19 : decode y_M_putsBack.2.1 19 = .ok (.iinc 1 1, 3) := by decide +kernel
theorem d_M_putsBack_22 : decode y_M_putsBack.2.1 22 = .ok (.goto (-20), 3) := by decide +kernel
theorem d_M_putsBack_25 : decode y_M_putsBack.2.1 25 = .ok (.iconst 0, 1) := by decide +kernel
theorem d_M_putsBack_26 : decode y_M_putsBack.2.1 26 = .ok (.istore_n 1, 1) := by decide +kernel
theorem d_M_putsBack_27 : decode y_M_putsBack.2.1 27 = .ok (.iload_n 1, 1) := by decide +kernel
theorem d_M_putsBack_28 : decode y_M_putsBack.2.1 28 = .ok (.bipush 12, 2) := by decide +kernel
theorem d_M_putsBack_30 : decode y_M_putsBack.2.1 30 = .ok (.if_icmp .ge 21, 3) := by decide +kernel
theorem d_M_putsBack_33 : decode y_M_putsBack.2.1 33 = .ok (.aload_n 0, 1) := by decide +kernel
theorem d_M_putsBack_34 : decode y_M_putsBack.2.1 34 = .ok (.getfield 176, 3) := by decide +kernel
theorem d_M_putsBack_37 : decode y_M_putsBack.2.1 37 = .ok (.iload_n 1, 1) := by decide +kernel
theorem d_M_putsBack_38 : decode y_M_putsBack.2.1 38 = .ok (.aload_n 0, 1) := by decide +kernel
theorem d_M_putsBack_39 : decode y_M_putsBack.2.1 39 = .ok (.getfield 245, 3) := by decide +kernel
theorem d_M_putsBack_42 : decode y_M_putsBack.2.1 42 = .ok (.iload_n 1, 1) := by decide +kernel
theorem d_M_putsBack_43 : decode y_M_putsBack.2.1 43 = .ok (.iaload, 1) := by decide +kernel
theorem d_M_putsBack_44 : decode y_M_putsBack.2.1 44 = .ok (.iastore, 1) := by decide +kernel
theorem d_M_putsBack_45 : decode y_M_putsBack.2.1 45 = .ok (.iinc 1 1, 3) := by decide +kernel
theorem d_M_putsBack_48 : decode y_M_putsBack.2.1 48 = .ok (.goto (-21), 3) := by decide +kernel
theorem d_M_putsBack_51 : decode y_M_putsBack.2.1 51 = .ok (.return_, 1) := by decide +kernel
theorem d_M_judge_0 : decode y_M_judge.2.1 0 = .ok (.aload_n 0, 1) := by decide +kernel
theorem d_M_judge_1 : decode y_M_judge.2.1 1 = .ok (.iconst 0, 1) := by decide +kernel
theorem d_M_judge_2 : decode y_M_judge.2.1 2 = .ok (.putfield 3, 3) := by decide +kernel
theorem d_M_judge_5 : decode y_M_judge.2.1 5 = .ok (.iload_n 1, 1) := by decide +kernel
theorem d_M_judge_6 : decode y_M_judge.2.1 6 = .ok (.i2l, 1) := by decide +kernel
theorem d_M_judge_7 : decode y_M_judge.2.1 7 = .ok (.lconst 0, 1) := by decide +kernel
theorem d_M_judge_8 : decode y_M_judge.2.1 8 = .ok (.ldc2_w 248, 3) := by decide +kernel
theorem d_M_judge_11 : decode y_M_judge.2.1 11 = .ok (.invokestatic 17, 3) := by decide +kernel
theorem d_M_judge_14 : decode y_M_judge.2.1 14 = .ok (.ifCond .ne 5, 3) := by decide +kernel
theorem d_M_judge_17 : decode y_M_judge.2.1 17 = .ok (.iconst (-1), 1) := by decide +kernel
theorem d_M_judge_18 : decode y_M_judge.2.1 18 = .ok (.ireturn, 1) := by decide +kernel
theorem d_M_judge_19 : decode y_M_judge.2.1 19 = .ok (.aload_n 0, 1) := by decide +kernel
theorem d_M_judge_20 : decode y_M_judge.2.1 20 = .ok (.invokevirtual 250, 3) := by decide +kernel
theorem d_M_judge_23 : decode y_M_judge.2.1 23 = .ok (.bipush (-2), 2) := by decide +kernel
theorem d_M_judge_25 : decode y_M_judge.2.1 25 = .ok (.istore 4, 2) := by decide +kernel
theorem d_M_judge_27 : decode y_M_judge.2.1 27 = .ok (.iconst 0, 1) := by decide +kernel
theorem d_M_judge_28 : decode y_M_judge.2.1 28 = .ok (.istore 5, 2) := by decide +kernel
theorem d_M_judge_30 : decode y_M_judge.2.1 30 = .ok (.iload 5, 2) := by decide +kernel
theorem d_M_judge_32 : decode y_M_judge.2.1 32 = .ok (.iload_n 1, 1) := by decide +kernel
theorem d_M_judge_33 : decode y_M_judge.2.1 33 = .ok (.if_icmp .ge 71, 3) := by decide +kernel
theorem d_M_judge_36 : decode y_M_judge.2.1 36 = .ok (.iload 4, 2) := by decide +kernel
theorem d_M_judge_38 : decode y_M_judge.2.1 38 = .ok (.ifCond .ge 66, 3) := by decide +kernel
theorem d_M_judge_41 : decode y_M_judge.2.1 41 = .ok (.iload 5, 2) := by decide +kernel
theorem d_M_judge_43 : decode y_M_judge.2.1 43 = .ok (.iconst 4, 1) := by decide +kernel
theorem d_M_judge_44 : decode y_M_judge.2.1 44 = .ok (.if_icmp .ge 7, 3) := by decide +kernel
theorem d_M_judge_47 : decode y_M_judge.2.1 47 = .ok (.iload_n 2, 1) := by decide +kernel
theorem d_M_judge_48 : decode y_M_judge.2.1 48 = .ok (.goto 4, 3) := by decide +kernel
theorem d_M_judge_51 : decode y_M_judge.2.1 51 = .ok (.iload_n 3, 1) := by decide +kernel
theorem d_M_judge_52 : decode y_M_judge.2.1 52 = .ok (.bipush 8, 2) := by decide +kernel
theorem d_M_judge_54 : decode y_M_judge.2.1 54 = .ok (.iload 5, 2) := by decide +kernel
theorem d_M_judge_56 : decode y_M_judge.2.1 56 = .ok (.iconst 4, 1) := by decide +kernel
theorem d_M_judge_57 : decode y_M_judge.2.1 57 = .ok (.irem, 1) := by decide +kernel
theorem d_M_judge_58 : decode y_M_judge.2.1 58 = .ok (.imul, 1) := by decide +kernel
theorem d_M_judge_59 : decode y_M_judge.2.1 59 = .ok (.ishr, 1) := by decide +kernel
theorem d_M_judge_60 : decode y_M_judge.2.1 60 = .ok (.sipush 255, 3) := by decide +kernel
theorem d_M_judge_63 : decode y_M_judge.2.1 63 = .ok (.iand, 1) := by decide +kernel
theorem d_M_judge_64 : decode y_M_judge.2.1 64 = .ok (.istore 6, 2) := by decide +kernel
theorem d_M_judge_66 : decode y_M_judge.2.1 66 = .ok (.aload_n 0, 1) := by decide +kernel
theorem d_M_judge_67 : decode y_M_judge.2.1 67 = .ok (.iload 6, 2) := by decide +kernel
theorem d_M_judge_69 : decode y_M_judge.2.1 69 = .ok (.invokevirtual 223, 3) := by decide +kernel
theorem d_M_judge_72 : decode y_M_judge.2.1 72 = .ok (.ifCond .eq 22, 3) := by decide +kernel
theorem d_M_judge_75 : decode y_M_judge.2.1 75 = .ok (.aload_n 0, 1) := by decide +kernel
theorem d_M_judge_76 : decode y_M_judge.2.1 76 = .ok (.iload 6, 2) := by decide +kernel
theorem d_M_judge_78 : decode y_M_judge.2.1 78 = .ok (.invokevirtual 226, 3) := by decide +kernel
theorem d_M_judge_81 : decode y_M_judge.2.1 81 = .ok (.ifCond .ne 13, 3) := by decide +kernel
theorem d_M_judge_84 : decode y_M_judge.2.1 84 = .ok (.aload_n 0, 1) := by decide +kernel
theorem d_M_judge_85 : decode y_M_judge.2.1 85 = .ok (.iload 6, 2) := by decide +kernel
theorem d_M_judge_87 : decode y_M_judge.2.1 87 = .ok (.invokevirtual 229, 3) := by decide +kernel
theorem d_M_judge_90 : decode y_M_judge.2.1 90 = .ok (.pop, 1) := by decide +kernel
theorem d_M_judge_91 : decode y_M_judge.2.1 91 = .ok (.goto 7, 3) := by decide +kernel
theorem d_M_judge_94 : decode y_M_judge.2.1 94 = .ok (.iload 5, 2) := by decide +kernel
theorem d_M_judge_96 : decode y_M_judge.2.1 96 = .ok (.istore 4, 2) := by decide +kernel
theorem d_M_judge_98 : decode y_M_judge.2.1 98 = .ok (.iinc 5 1, 3) := by decide +kernel
theorem d_M_judge_101 : decode y_M_judge.2.1 101 = .ok (.goto (-71), 3) := by decide +kernel
theorem d_M_judge_104 : decode y_M_judge.2.1 104 = .ok (.aload_n 0, 1) := by decide +kernel
theorem d_M_judge_105 : decode y_M_judge.2.1 105 = .ok (.iconst 0, 1) := by decide +kernel
theorem d_M_judge_106 : decode y_M_judge.2.1 106 = .ok (.putfield 11, 3) := by decide +kernel
theorem d_M_judge_109 : decode y_M_judge.2.1 109 = .ok (.iconst 0, 1) := by decide +kernel
theorem d_M_judge_110 : decode y_M_judge.2.1 110 = .ok (.istore 5, 2) := by decide +kernel
theorem d_M_judge_112 : decode y_M_judge.2.1 112 = .ok (.iload 5, 2) := by decide +kernel
theorem d_M_judge_114 : decode y_M_judge.2.1 114 = .ok (.iconst 3, 1) := by decide +kernel
theorem d_M_judge_115 : decode y_M_judge.2.1 115 = .ok (.if_icmp .ge 20, 3) := by decide +kernel
theorem d_M_judge_118 : decode y_M_judge.2.1 118 = .ok (.aload_n 0, 1) := by decide +kernel
theorem d_M_judge_119 : decode y_M_judge.2.1 119 = .ok (.aload_n 0, 1) := by decide +kernel
theorem d_M_judge_120 : decode y_M_judge.2.1 120 = .ok (.getfield 154, 3) := by decide +kernel
theorem d_M_judge_123 : decode y_M_judge.2.1 123 = .ok (.iload 5, 2) := by decide +kernel
theorem d_M_judge_125 : decode y_M_judge.2.1 125 = .ok (.iaload, 1) := by decide +kernel
theorem d_M_judge_126 : decode y_M_judge.2.1 126 = .ok (.invokevirtual 236, 3) := by decide +kernel
theorem d_M_judge_129 : decode y_M_judge.2.1 129 = .ok (.iinc 5 1, 3) := by decide +kernel
theorem d_M_judge_132 : decode y_M_judge.2.1 132 = .ok (.goto (-20), 3) := by decide +kernel
theorem d_M_judge_135 : decode y_M_judge.2.1 135 = .ok (.aload_n 0, 1) := by decide +kernel
theorem d_M_judge_136 : decode y_M_judge.2.1 136 = .ok (.invokevirtual 254, 3) := by decide +kernel
theorem d_M_judge_139 : decode y_M_judge.2.1 139 = .ok (.iload 4, 2) := by decide +kernel
theorem d_M_judge_141 : decode y_M_judge.2.1 141 = .ok (.ireturn, 1) := by decide +kernel
theorem d_M_reader_0 : decode y_M_reader.2.1 0 = .ok (.aload_n 0, 1) := by decide +kernel
theorem d_M_reader_1 : decode y_M_reader.2.1 1 = .ok (.iconst 0, 1) := by decide +kernel
theorem d_M_reader_2 : decode y_M_reader.2.1 2 = .ok (.putfield 3, 3) := by decide +kernel
theorem d_M_reader_5 : decode y_M_reader.2.1 5 = .ok (.iload_n 1, 1) := by decide +kernel
theorem d_M_reader_6 : decode y_M_reader.2.1 6 = .ok (.invokestatic 194, 3) := by decide +kernel
theorem d_M_reader_9 : decode y_M_reader.2.1 9 = .ok (.ifCond .eq 20, 3) := by decide +kernel
theorem d_M_reader_12 : decode y_M_reader.2.1 12 = .ok (.aload_n 0, 1) := by decide +kernel
theorem d_M_reader_13 : decode y_M_reader.2.1 13 = .ok (.iload_n 2, 1) := by decide +kernel
theorem d_M_reader_14 : decode y_M_reader.2.1 14 = .ok (.invokevirtual 239, 3) := by decide +kernel
theorem d_M_reader_17 : decode y_M_reader.2.1 17 = .ok (.ifCond .eq 12, 3) := by decide +kernel
theorem d_M_reader_20 : decode y_M_reader.2.1 20 = .ok (.aload_n 0, 1) := by decide +kernel
theorem d_M_reader_21 : decode y_M_reader.2.1 21 = .ok (.getfield 23, 3) := by decide +kernel
theorem d_M_reader_24 : decode y_M_reader.2.1 24 = .ok (.bipush 6, 2) := by decide +kernel
theorem d_M_reader_26 : decode y_M_reader.2.1 26 = .ok (.if_icmp .ne 5, 3) := by decide +kernel
theorem d_M_reader_29 : decode y_M_reader.2.1 29 = .ok (.iconst (-1), 1) := by decide +kernel
theorem d_M_reader_30 : decode y_M_reader.2.1 30 = .ok (.ireturn, 1) := by decide +kernel
theorem d_M_reader_31 : decode y_M_reader.2.1 31 = .ok (.aload_n 0, 1) := by decide +kernel
theorem d_M_reader_32 : decode y_M_reader.2.1 32 = .ok (.getfield 257, 3) := by decide +kernel
theorem d_M_reader_35 : decode y_M_reader.2.1 35 = .ok (.aload_n 0, 1) := by decide +kernel
theorem d_M_reader_36 : decode y_M_reader.2.1 36 = .ok (.getfield 23, 3) := by decide +kernel
theorem d_M_reader_39 : decode y_M_reader.2.1 39 = .ok (.iload_n 1, 1) := by decide +kernel
theorem d_M_reader_40 : decode y_M_reader.2.1 40 = .ok (.iastore, 1) := by decide +kernel
theorem d_M_reader_41 : decode y_M_reader.2.1 41 = .ok (.aload_n 0, 1) := by decide +kernel
theorem d_M_reader_42 : decode y_M_reader.2.1 42 = .ok (.getfield 260, 3) := by decide +kernel
theorem d_M_reader_45 : decode y_M_reader.2.1 45 = .ok (.aload_n 0, 1) := by decide +kernel
theorem d_M_reader_46 : decode y_M_reader.2.1 46 = .ok (.getfield 23, 3) := by decide +kernel
theorem d_M_reader_49 : decode y_M_reader.2.1 49 = .ok (.iload_n 1, 1) := by decide +kernel
theorem d_M_reader_50 : decode y_M_reader.2.1 50 = .ok (.iastore, 1) := by decide +kernel
theorem d_M_reader_51 : decode y_M_reader.2.1 51 = .ok (.aload_n 0, 1) := by decide +kernel
theorem d_M_reader_52 : decode y_M_reader.2.1 52 = .ok (.getfield 263, 3) := by decide +kernel
theorem d_M_reader_55 : decode y_M_reader.2.1 55 = .ok (.aload_n 0, 1) := by decide +kernel
theorem d_M_reader_56 : decode y_M_reader.2.1 56 = .ok (.getfield 23, 3) := by decide +kernel
theorem d_M_reader_59 : decode y_M_reader.2.1 59 = .ok (.iload_n 2, 1) := by decide +kernel
theorem d_M_reader_60 : decode y_M_reader.2.1 60 = .ok (.iastore, 1) := by decide +kernel
theorem d_M_reader_61 : decode y_M_reader.2.1 61 = .ok (.aload_n 0, 1) := by decide +kernel
theorem d_M_reader_62 : decode y_M_reader.2.1 62 = .ok (.getfield 26, 3) := by decide +kernel
theorem d_M_reader_65 : decode y_M_reader.2.1 65 = .ok (.aload_n 0, 1) := by decide +kernel
theorem d_M_reader_66 : decode y_M_reader.2.1 66 = .ok (.getfield 23, 3) := by decide +kernel
theorem d_M_reader_69 : decode y_M_reader.2.1 69 = .ok (.iconst 0, 1) := by decide +kernel
theorem d_M_reader_70 : decode y_M_reader.2.1 70 = .ok (.iastore, 1) := by decide +kernel
theorem d_M_reader_71 : decode y_M_reader.2.1 71 = .ok (.aload_n 0, 1) := by decide +kernel
theorem d_M_reader_72 : decode y_M_reader.2.1 72 = .ok (.dup, 1) := by decide +kernel
theorem d_M_reader_73 : decode y_M_reader.2.1 73 = .ok (.getfield 23, 3) := by decide +kernel
theorem d_M_reader_76 : decode y_M_reader.2.1 76 = .ok (.iconst 1, 1) := by decide +kernel
theorem d_M_reader_77 : decode y_M_reader.2.1 77 = .ok (.iadd, 1) := by decide +kernel
theorem d_M_reader_78 : decode y_M_reader.2.1 78 = .ok (.putfield 23, 3) := by decide +kernel
theorem d_M_reader_81 : decode y_M_reader.2.1 81 = .ok (.aload_n 0, 1) := by decide +kernel
theorem d_M_reader_82 : decode y_M_reader.2.1 82 = .ok (.getfield 23, 3) := by decide +kernel
theorem d_M_reader_85 : decode y_M_reader.2.1 85 = .ok (.iconst 1, 1) := by decide +kernel
theorem d_M_reader_86 : decode y_M_reader.2.1 86 = .ok (.isub, 1) := by decide +kernel
theorem d_M_reader_87 : decode y_M_reader.2.1 87 = .ok (.ireturn, 1) := by decide +kernel
theorem d_M_sit_0 : decode y_M_sit.2.1 0 = .ok (.aload_n 0, 1) := by decide +kernel
theorem d_M_sit_1 : decode y_M_sit.2.1 1 = .ok (.iconst 0, 1) := by decide +kernel
theorem d_M_sit_2 : decode y_M_sit.2.1 2 = .ok (.putfield 3, 3) := by decide +kernel
theorem d_M_sit_5 : decode y_M_sit.2.1 5 = .ok (.aload_n 0, 1) := by decide +kernel
theorem d_M_sit_6 : decode y_M_sit.2.1 6 = .ok (.iload_n 1, 1) := by decide +kernel
theorem d_M_sit_7 : decode y_M_sit.2.1 7 = .ok (.invokevirtual 266, 3) := by decide +kernel
theorem d_M_sit_10 : decode y_M_sit.2.1 10 = .ok (.ifCond .eq 10, 3) := by decide +kernel
theorem d_M_sit_13 : decode y_M_sit.2.1 13 = .ok (.iload_n 2, 1) := by decide +kernel
theorem d_M_sit_14 : decode y_M_sit.2.1 14 = .ok (.invokestatic 194, 3) := by decide +kernel
theorem d_M_sit_17 : decode y_M_sit.2.1 17 = .ok (.ifCond .ne 5, 3) := by decide +kernel
theorem d_M_sit_20 : decode y_M_sit.2.1 20 = .ok (.iconst (-1), 1) := by decide +kernel
theorem d_M_sit_21 : decode y_M_sit.2.1 21 = .ok (.ireturn, 1) := by decide +kernel
theorem d_M_sit_22 : decode y_M_sit.2.1 22 = .ok (.aload_n 0, 1) := by decide +kernel
theorem d_M_sit_23 : decode y_M_sit.2.1 23 = .ok (.getfield 257, 3) := by decide +kernel
theorem d_M_sit_26 : decode y_M_sit.2.1 26 = .ok (.iload_n 1, 1) := by decide +kernel
theorem d_M_sit_27 : decode y_M_sit.2.1 27 = .ok (.iaload, 1) := by decide +kernel
theorem d_M_sit_28 : decode y_M_sit.2.1 28 = .ok (.istore_n 3, 1) := by decide +kernel
theorem d_M_sit_29 : decode y_M_sit.2.1 29 = .ok (.aload_n 0, 1) := by decide +kernel
theorem d_M_sit_30 : decode y_M_sit.2.1 30 = .ok (.getfield 257, 3) := by decide +kernel
theorem d_M_sit_33 : decode y_M_sit.2.1 33 = .ok (.iload_n 1, 1) := by decide +kernel
theorem d_M_sit_34 : decode y_M_sit.2.1 34 = .ok (.iload_n 2, 1) := by decide +kernel
theorem d_M_sit_35 : decode y_M_sit.2.1 35 = .ok (.iastore, 1) := by decide +kernel
theorem d_M_sit_36 : decode y_M_sit.2.1 36 = .ok (.iload_n 3, 1) := by decide +kernel
theorem d_M_sit_37 : decode y_M_sit.2.1 37 = .ok (.ireturn, 1) := by decide +kernel
theorem d_M_hasRead_0 : decode y_M_hasRead.2.1 0 = .ok (.aload_n 0, 1) := by decide +kernel
theorem d_M_hasRead_1 : decode y_M_hasRead.2.1 1 = .ok (.getfield 26, 3) := by decide +kernel
theorem d_M_hasRead_4 : decode y_M_hasRead.2.1 4 = .ok (.iload_n 1, 1) := by decide +kernel
theorem d_M_hasRead_5 : decode y_M_hasRead.2.1 5 = .ok (.dup2, 1) := by decide +kernel
theorem d_M_hasRead_6 : decode y_M_hasRead.2.1 6 = .ok (.iaload, 1) := by decide +kernel
theorem d_M_hasRead_7 : decode y_M_hasRead.2.1 7 = .ok (.iconst 1, 1) := by decide +kernel
theorem d_M_hasRead_8 : decode y_M_hasRead.2.1 8 = .ok (.iload_n 2, 1) := by decide +kernel
theorem d_M_hasRead_9 : decode y_M_hasRead.2.1 9 = .ok (.ishl, 1) := by decide +kernel
theorem d_M_hasRead_10 : decode y_M_hasRead.2.1 10 = .ok (.ior, 1) := by decide +kernel
theorem d_M_hasRead_11 : decode y_M_hasRead.2.1 11 = .ok (.iastore, 1) := by decide +kernel
theorem d_M_hasRead_12 : decode y_M_hasRead.2.1 12 = .ok (.aload_n 0, 1) := by decide +kernel
theorem d_M_hasRead_13 : decode y_M_hasRead.2.1 13 = .ok (.getfield 257, 3) := by decide +kernel
theorem d_M_hasRead_16 : decode y_M_hasRead.2.1 16 = .ok (.iload_n 1, 1) := by decide +kernel
theorem d_M_hasRead_17 : decode y_M_hasRead.2.1 17 = .ok (.iaload, 1) := by decide +kernel
theorem d_M_hasRead_18 : decode y_M_hasRead.2.1 18 = .ok (.istore_n 3, 1) := by decide +kernel
theorem d_M_hasRead_19 : decode y_M_hasRead.2.1 19 = .ok (.aload_n 0, 1) := by decide +kernel
theorem d_M_hasRead_20 : decode y_M_hasRead.2.1 20 = .ok (.getfield 154, 3) := by decide +kernel
theorem d_M_hasRead_23 : decode y_M_hasRead.2.1 23 = .ok (.iload_n 3, 1) := by decide +kernel
theorem d_M_hasRead_24 : decode y_M_hasRead.2.1 24 = .ok (.aload_n 0, 1) := by decide +kernel
theorem d_M_hasRead_25 : decode y_M_hasRead.2.1 25 = .ok (.iload_n 3, 1) := by decide +kernel
theorem d_M_hasRead_26 : decode y_M_hasRead.2.1 26 = .ok (.aload_n 0, 1) := by decide +kernel
theorem d_M_hasRead_27 : decode y_M_hasRead.2.1 27 = .ok (.getfield 154, 3) := by decide +kernel
theorem d_M_hasRead_30 : decode y_M_hasRead.2.1 30 = .ok (.iload_n 3, 1) := by decide +kernel
theorem d_M_hasRead_31 : decode y_M_hasRead.2.1 31 = .ok (.iaload, 1) := by decide +kernel
theorem d_M_hasRead_32 : decode y_M_hasRead.2.1 32 = .ok (.invokevirtual 186, 3) := by decide +kernel
theorem d_M_hasRead_35 : decode y_M_hasRead.2.1 35 = .ok (.iastore, 1) := by decide +kernel
theorem d_M_hasRead_36 : decode y_M_hasRead.2.1 36 = .ok (.aload_n 0, 1) := by decide +kernel
theorem d_M_hasRead_37 : decode y_M_hasRead.2.1 37 = .ok (.iload_n 2, 1) := by decide +kernel
theorem d_M_hasRead_38 : decode y_M_hasRead.2.1 38 = .ok (.invokevirtual 138, 3) := by decide +kernel
theorem d_M_hasRead_41 : decode y_M_hasRead.2.1 41 = .ok (.ireturn, 1) := by decide +kernel
theorem d_M_read_0 : decode y_M_read.2.1 0 = .ok (.aload_n 0, 1) := by decide +kernel
theorem d_M_read_1 : decode y_M_read.2.1 1 = .ok (.iconst 0, 1) := by decide +kernel
theorem d_M_read_2 : decode y_M_read.2.1 2 = .ok (.putfield 3, 3) := by decide +kernel
theorem d_M_read_5 : decode y_M_read.2.1 5 = .ok (.aload_n 0, 1) := by decide +kernel
theorem d_M_read_6 : decode y_M_read.2.1 6 = .ok (.iload_n 1, 1) := by decide +kernel
theorem d_M_read_7 : decode y_M_read.2.1 7 = .ok (.invokevirtual 266, 3) := by decide +kernel
theorem d_M_read_10 : decode y_M_read.2.1 10 = .ok (.ifCond .eq 11, 3) := by decide +kernel
theorem d_M_read_13 : decode y_M_read.2.1 13 = .ok (.aload_n 0, 1) := by decide +kernel
theorem d_M_read_14 : decode y_M_read.2.1 14 = .ok (.iload_n 2, 1) := by decide +kernel
theorem d_M_read_15 : decode y_M_read.2.1 15 = .ok (.invokevirtual 189, 3) := by decide +kernel
theorem d_M_read_18 : decode y_M_read.2.1 18 = .ok (.ifCond .ne 5, 3) := by decide +kernel
theorem d_M_read_21 : decode y_M_read.2.1 21 = .ok (.iconst (-1), 1) := by decide +kernel
theorem d_M_read_22 : decode y_M_read.2.1 22 = .ok (.ireturn, 1) := by decide +kernel
theorem d_M_read_23 : decode y_M_read.2.1 23 = .ok (.aload_n 0, 1) := by decide +kernel
theorem d_M_read_24 : decode y_M_read.2.1 24 = .ok (.getfield 154, 3) := by decide +kernel
theorem d_M_read_27 : decode y_M_read.2.1 27 = .ok (.aload_n 0, 1) := by decide +kernel
theorem d_M_read_28 : decode y_M_read.2.1 28 = .ok (.getfield 257, 3) := by decide +kernel
theorem d_M_read_31 : decode y_M_read.2.1 31 = .ok (.iload_n 1, 1) := by decide +kernel
theorem d_M_read_32 : decode y_M_read.2.1 32 = .ok (.iaload, 1) := by decide +kernel
theorem d_M_read_33 : decode y_M_read.2.1 33 = .ok (.iaload, 1) := by decide +kernel
theorem d_M_read_34 : decode y_M_read.2.1 34 = .ok (.iload_n 2, 1) := by decide +kernel
theorem d_M_read_35 : decode y_M_read.2.1 35 = .ok (.invokestatic 29, 3) := by decide +kernel
theorem d_M_read_38 : decode y_M_read.2.1 38 = .ok (.ifCond .eq 12, 3) := by decide +kernel
theorem d_M_read_41 : decode y_M_read.2.1 41 = .ok (.aload_n 0, 1) := by decide +kernel
theorem d_M_read_42 : decode y_M_read.2.1 42 = .ok (.iload_n 1, 1) := by decide +kernel
theorem d_M_read_43 : decode y_M_read.2.1 43 = .ok (.iload_n 2, 1) := by decide +kernel
theorem d_M_read_44 : decode y_M_read.2.1 44 = .ok (.invokevirtual 269, 3) := by decide +kernel
theorem d_M_read_47 : decode y_M_read.2.1 47 = .ok (.goto 5, 3) := by decide +kernel
theorem d_M_read_50 : decode y_M_read.2.1 50 = .ok (.bipush (-2), 2) := by decide +kernel
theorem d_M_read_52 : decode y_M_read.2.1 52 = .ok (.ireturn, 1) := by decide +kernel
theorem d_M_leftOf_0 : decode y_M_leftOf.2.1 0 = .ok (.aload_n 0, 1) := by decide +kernel
theorem d_M_leftOf_1 : decode y_M_leftOf.2.1 1 = .ok (.getfield 263, 3) := by decide +kernel
theorem d_M_leftOf_4 : decode y_M_leftOf.2.1 4 = .ok (.iload_n 1, 1) := by decide +kernel
theorem d_M_leftOf_5 : decode y_M_leftOf.2.1 5 = .ok (.iaload, 1) := by decide +kernel
theorem d_M_leftOf_6 : decode y_M_leftOf.2.1 6 = .ok (.aload_n 0, 1) := by decide +kernel
theorem d_M_leftOf_7 : decode y_M_leftOf.2.1 7 = .ok (.getfield 26, 3) := by decide +kernel
theorem d_M_leftOf_10 : decode y_M_leftOf.2.1 10 = .ok (.iload_n 1, 1) := by decide +kernel
theorem d_M_leftOf_11 : decode y_M_leftOf.2.1 11 = .ok (.iaload, 1) := by decide +kernel
theorem d_M_leftOf_12 : decode y_M_leftOf.2.1 12 = .ok (.iconst (-1), 1) := by decide +kernel
theorem d_M_leftOf_13 : decode y_M_leftOf.2.1 13 = .ok (.ixor, 1) := by decide +kernel
theorem d_M_leftOf_14 : decode y_M_leftOf.2.1 14 = .ok (.iand, 1) := by decide +kernel
theorem d_M_leftOf_15 : decode y_M_leftOf.2.1 15 = .ok (.ireturn, 1) := by decide +kernel
theorem d_M_of_0 : decode y_M_of.2.1 0 = .ok (.aload_n 0, 1) := by decide +kernel
theorem d_M_of_1 : decode y_M_of.2.1 1 = .ok (.iconst 0, 1) := by decide +kernel
theorem d_M_of_2 : decode y_M_of.2.1 2 = .ok (.putfield 3, 3) := by decide +kernel
theorem d_M_of_5 : decode y_M_of.2.1 5 = .ok (.aload_n 0, 1) := by decide +kernel
theorem d_M_of_6 : decode y_M_of.2.1 6 = .ok (.iload_n 1, 1) := by decide +kernel
theorem d_M_of_7 : decode y_M_of.2.1 7 = .ok (.invokevirtual 266, 3) := by decide +kernel
theorem d_M_of_10 : decode y_M_of.2.1 10 = .ok (.ifCond .eq 15, 3) := by decide +kernel
theorem d_M_of_13 : decode y_M_of.2.1 13 = .ok (.iload_n 2, 1) := by decide +kernel
theorem d_M_of_14 : decode y_M_of.2.1 14 = .ok (.i2l, 1) := by decide +kernel
theorem d_M_of_15 : decode y_M_of.2.1 15 = .ok (.lconst 0, 1) := by decide +kernel
theorem d_M_of_16 : decode y_M_of.2.1 16 = .ok (.ldc2_w 202, 3) := by decide +kernel
theorem d_M_of_19 : decode y_M_of.2.1 19 = .ok (.invokestatic 17, 3) := by decide +kernel
theorem d_M_of_22 : decode y_M_of.2.1 22 = .ok (.ifCond .ne 8, 3) := by decide +kernel
theorem d_M_of_25 : decode y_M_of.2.1 25 = .ok (.aload_n 0, 1) := by decide +kernel
theorem d_M_of_26 : decode y_M_of.2.1 26 = .ok (.invokevirtual 209, 3) := by decide +kernel
theorem d_M_of_29 : decode y_M_of.2.1 29 = .ok (.ireturn, 1) := by decide +kernel
theorem d_M_of_30 : decode y_M_of.2.1 30 = .ok (.iload_n 2, 1) := by decide +kernel
theorem d_M_of_31 : decode y_M_of.2.1 31 = .ok (.ifCond .ne 12, 3) := by decide +kernel
theorem d_M_of_34 : decode y_M_of.2.1 34 = .ok (.aload_n 0, 1) := by decide +kernel
theorem d_M_of_35 : decode y_M_of.2.1 35 = .ok (.getfield 257, 3) := by decide +kernel
theorem d_M_of_38 : decode y_M_of.2.1 38 = .ok (.iload_n 1, 1) := by decide +kernel
theorem d_M_of_39 : decode y_M_of.2.1 39 = .ok (.iaload, 1) := by decide +kernel
theorem d_M_of_40 : decode y_M_of.2.1 40 = .ok (.goto 36, 3) := by decide +kernel
theorem d_M_of_43 : decode y_M_of.2.1 43 = .ok (.iload_n 2, 1) := by decide +kernel
theorem d_M_of_44 : decode y_M_of.2.1 44 = .ok (.iconst 1, 1) := by decide +kernel
theorem d_M_of_45 : decode y_M_of.2.1 45 = .ok (.if_icmp .ne 12, 3) := by decide +kernel
theorem d_M_of_48 : decode y_M_of.2.1 48 = .ok (.aload_n 0, 1) := by decide +kernel
theorem d_M_of_49 : decode y_M_of.2.1 49 = .ok (.getfield 263, 3) := by decide +kernel
theorem d_M_of_52 : decode y_M_of.2.1 52 = .ok (.iload_n 1, 1) := by decide +kernel
theorem d_M_of_53 : decode y_M_of.2.1 53 = .ok (.iaload, 1) := by decide +kernel
theorem d_M_of_54 : decode y_M_of.2.1 54 = .ok (.goto 22, 3) := by decide +kernel
theorem d_M_of_57 : decode y_M_of.2.1 57 = .ok (.iload_n 2, 1) := by decide +kernel
theorem d_M_of_58 : decode y_M_of.2.1 58 = .ok (.iconst 2, 1) := by decide +kernel
theorem d_M_of_59 : decode y_M_of.2.1 59 = .ok (.if_icmp .ne 12, 3) := by decide +kernel
theorem d_M_of_62 : decode y_M_of.2.1 62 = .ok (.aload_n 0, 1) := by decide +kernel
theorem d_M_of_63 : decode y_M_of.2.1 63 = .ok (.getfield 26, 3) := by decide +kernel
theorem d_M_of_66 : decode y_M_of.2.1 66 = .ok (.iload_n 1, 1) := by decide +kernel
theorem d_M_of_67 : decode y_M_of.2.1 67 = .ok (.iaload, 1) := by decide +kernel
theorem d_M_of_68 : decode y_M_of.2.1 68 = .ok (.goto 8, 3) := by decide +kernel
theorem d_M_of_71 : decode y_M_of.2.1 71 = .ok (.aload_n 0, 1) := by decide +kernel
theorem d_M_of_72 : decode y_M_of.2.1 72 = .ok (.iload_n 1, 1) := by decide +kernel
theorem d_M_of_73 : decode y_M_of.2.1 73 = .ok (.invokevirtual 272, 3) := by decide +kernel
theorem d_M_of_76 : decode y_M_of.2.1 76 = .ok (.ireturn, 1) := by decide +kernel
theorem d_M_ruleOf_0 : decode y_M_ruleOf.2.1 0 = .ok (.aload_n 0, 1) := by decide +kernel
theorem d_M_ruleOf_1 : decode y_M_ruleOf.2.1 1 = .ok (.bipush 24, 2) := by decide +kernel
theorem d_M_ruleOf_3 : decode y_M_ruleOf.2.1 3 = .ok (.aload_n 0, 1) := by decide +kernel
theorem d_M_ruleOf_4 : decode y_M_ruleOf.2.1 4 = .ok (.getfield 154, 3) := by decide +kernel
theorem d_M_ruleOf_7 : decode y_M_ruleOf.2.1 7 = .ok (.aload_n 0, 1) := by decide +kernel
theorem d_M_ruleOf_8 : decode y_M_ruleOf.2.1 8 = .ok (.getfield 257, 3) := by decide +kernel
theorem d_M_ruleOf_11 : decode y_M_ruleOf.2.1 11 = .ok (.iload_n 1, 1) := by decide +kernel
theorem d_M_ruleOf_12 : decode y_M_ruleOf.2.1 12 = .ok (.iaload, 1) := by decide +kernel
theorem d_M_ruleOf_13 : decode y_M_ruleOf.2.1 13 = .ok (.iaload, 1) := by decide +kernel
theorem d_M_ruleOf_14 : decode y_M_ruleOf.2.1 14 = .ok (.aload_n 0, 1) := by decide +kernel
theorem d_M_ruleOf_15 : decode y_M_ruleOf.2.1 15 = .ok (.getfield 26, 3) := by decide +kernel
theorem d_M_ruleOf_18 : decode y_M_ruleOf.2.1 18 = .ok (.iload_n 1, 1) := by decide +kernel
theorem d_M_ruleOf_19 : decode y_M_ruleOf.2.1 19 = .ok (.iaload, 1) := by decide +kernel
theorem d_M_ruleOf_20 : decode y_M_ruleOf.2.1 20 = .ok (.invokestatic 118, 3) := by decide +kernel
theorem d_M_ruleOf_23 : decode y_M_ruleOf.2.1 23 = .ok (.aload_n 0, 1) := by decide +kernel
theorem d_M_ruleOf_24 : decode y_M_ruleOf.2.1 24 = .ok (.getfield 257, 3) := by decide +kernel
theorem d_M_ruleOf_27 : decode y_M_ruleOf.2.1 27 = .ok (.iload_n 1, 1) := by decide +kernel
theorem d_M_ruleOf_28 : decode y_M_ruleOf.2.1 28 = .ok (.iaload, 1) := by decide +kernel
theorem d_M_ruleOf_29 : decode y_M_ruleOf.2.1 29 = .ok (.invokevirtual 144, 3) := by decide +kernel
theorem d_M_ruleOf_32 : decode y_M_ruleOf.2.1 32 = .ok (.ireturn, 1) := by decide +kernel
theorem d_M_ranks_0 : decode y_M_ranks.2.1 0 = .ok (.iconst 0, 1) := by decide +kernel
theorem d_M_ranks_1 : decode y_M_ranks.2.1 1 = .ok (.istore_n 1, 1) := by decide +kernel
theorem d_M_ranks_2 : decode y_M_ranks.2.1 2 = .ok (.iload_n 1, 1) := by decide +kernel
theorem d_M_ranks_3 : decode y_M_ranks.2.1 3 = .ok (.aload_n 0, 1) := by decide +kernel
theorem d_M_ranks_4 : decode y_M_ranks.2.1 4 = .ok (.getfield 23, 3) := by decide +kernel
theorem d_M_ranks_7 : decode y_M_ranks.2.1 7 = .ok (.if_icmp .ge 20, 3) := by decide +kernel
theorem d_M_ranks_10 : decode y_M_ranks.2.1 10 = .ok (.aload_n 0, 1) := by decide +kernel
theorem d_M_ranks_11 : decode y_M_ranks.2.1 11 = .ok (.getfield 275, 3) := by decide +kernel
theorem d_M_ranks_14 : decode y_M_ranks.2.1 14 = .ok (.iload_n 1, 1) := by decide +kernel
theorem d_M_ranks_15 : decode y_M_ranks.2.1 15 = .ok (.aload_n 0, 1) := by decide +kernel
theorem d_M_ranks_16 : decode y_M_ranks.2.1 16 = .ok (.iload_n 1, 1) := by decide +kernel
theorem d_M_ranks_17 : decode y_M_ranks.2.1 17 = .ok (.invokevirtual 278, 3) := by decide +kernel
theorem d_M_ranks_20 : decode y_M_ranks.2.1 20 = .ok (.iastore, 1) := by decide +kernel
theorem d_M_ranks_21 : decode y_M_ranks.2.1 21 = .ok (.iinc 1 1, 3) := by decide +kernel
theorem d_M_ranks_24 : decode y_M_ranks.2.1 24 = .ok (.goto (-22), 3) := by decide +kernel
theorem d_M_ranks_27 : decode y_M_ranks.2.1 27 = .ok (.iconst 0, 1) := by decide +kernel
theorem d_M_ranks_28 : decode y_M_ranks.2.1 28 = .ok (.istore_n 1, 1) := by decide +kernel
theorem d_M_ranks_29 : decode y_M_ranks.2.1 29 = .ok (.iconst 0, 1) := by decide +kernel
theorem d_M_ranks_30 : decode y_M_ranks.2.1 30 = .ok (.istore_n 2, 1) := by decide +kernel
theorem d_M_ranks_31 : decode y_M_ranks.2.1 31 = .ok (.iload_n 2, 1) := by decide +kernel
theorem d_M_ranks_32 : decode y_M_ranks.2.1 32 = .ok (.aload_n 0, 1) := by decide +kernel
theorem d_M_ranks_33 : decode y_M_ranks.2.1 33 = .ok (.getfield 23, 3) := by decide +kernel
theorem d_M_ranks_36 : decode y_M_ranks.2.1 36 = .ok (.if_icmp .ge 78, 3) := by decide +kernel
theorem d_M_ranks_39 : decode y_M_ranks.2.1 39 = .ok (.iconst (-1), 1) := by decide +kernel
theorem d_M_ranks_40 : decode y_M_ranks.2.1 40 = .ok (.istore_n 3, 1) := by decide +kernel
theorem d_M_ranks_41 : decode y_M_ranks.2.1 41 = .ok (.iconst 0, 1) := by decide +kernel
theorem d_M_ranks_42 : decode y_M_ranks.2.1 42 = .ok (.istore 4, 2) := by decide +kernel
theorem d_M_ranks_44 : decode y_M_ranks.2.1 44 = .ok (.iload 4, 2) := by decide +kernel
theorem d_M_ranks_46 : decode y_M_ranks.2.1 46 = .ok (.aload_n 0, 1) := by decide +kernel
theorem d_M_ranks_47 : decode y_M_ranks.2.1 47 = .ok (.getfield 23, 3) := by decide +kernel
theorem d_M_ranks_50 : decode y_M_ranks.2.1 50 = .ok (.if_icmp .ge 45, 3) := by decide +kernel
theorem d_M_ranks_53 : decode y_M_ranks.2.1 53 = .ok (.iload_n 1, 1) := by decide +kernel
theorem d_M_ranks_54 : decode y_M_ranks.2.1 54 = .ok (.iload 4, 2) := by decide +kernel
theorem d_M_ranks_56 : decode y_M_ranks.2.1 56 = .ok (.invokestatic 29, 3) := by decide +kernel
theorem d_M_ranks_59 : decode y_M_ranks.2.1 59 = .ok (.ifCond .ne 28, 3) := by decide +kernel
theorem d_M_ranks_62 : decode y_M_ranks.2.1 62 = .ok (.iload_n 3, 1) := by decide +kernel
theorem d_M_ranks_63 : decode y_M_ranks.2.1 63 = .ok (.ifCond .lt 19, 3) := by decide +kernel
theorem d_M_ranks_66 : decode y_M_ranks.2.1 66 = .ok (.aload_n 0, 1) := by decide +kernel
theorem d_M_ranks_67 : decode y_M_ranks.2.1 67 = .ok (.getfield 275, 3) := by decide +kernel
theorem d_M_ranks_70 : decode y_M_ranks.2.1 70 = .ok (.iload 4, 2) := by decide +kernel
theorem d_M_ranks_72 : decode y_M_ranks.2.1 72 = .ok (.iaload, 1) := by decide +kernel
theorem d_M_ranks_73 : decode y_M_ranks.2.1 73 = .ok (.aload_n 0, 1) := by decide +kernel
theorem d_M_ranks_74 : decode y_M_ranks.2.1 74 = .ok (.getfield 275, 3) := by decide +kernel
theorem d_M_ranks_77 : decode y_M_ranks.2.1 77 = .ok (.iload_n 3, 1) := by decide +kernel
theorem d_M_ranks_78 : decode y_M_ranks.2.1 78 = .ok (.iaload, 1) := by decide +kernel
theorem d_M_ranks_79 : decode y_M_ranks.2.1 79 = .ok (.if_icmp .le 8, 3) := by decide +kernel
theorem d_M_ranks_82 : decode y_M_ranks.2.1 82 = .ok (.iload 4, 2) := by decide +kernel
theorem d_M_ranks_84 : decode y_M_ranks.2.1 84 = .ok (.goto 4, 3) := by decide +kernel
theorem d_M_ranks_87 : decode y_M_ranks.2.1 87 = .ok (.iload_n 3, 1) := by decide +kernel
theorem d_M_ranks_88 : decode y_M_ranks.2.1 88 = .ok (.istore_n 3, 1) := by decide +kernel
theorem d_M_ranks_89 : decode y_M_ranks.2.1 89 = .ok (.iinc 4 1, 3) := by decide +kernel
theorem d_M_ranks_92 : decode y_M_ranks.2.1 92 = .ok (.goto (-48), 3) := by decide +kernel
theorem d_M_ranks_95 : decode y_M_ranks.2.1 95 = .ok (.aload_n 0, 1) := by decide +kernel
theorem d_M_ranks_96 : decode y_M_ranks.2.1 96 = .ok (.getfield 281, 3) := by decide +kernel
theorem d_M_ranks_99 : decode y_M_ranks.2.1 99 = .ok (.iload_n 2, 1) := by decide +kernel
theorem d_M_ranks_100 : decode y_M_ranks.2.1 100 = .ok (.iload_n 3, 1) := by decide +kernel
theorem d_M_ranks_101 : decode y_M_ranks.2.1 101 = .ok (.iastore, 1) := by decide +kernel
theorem d_M_ranks_102 : decode y_M_ranks.2.1 102 = .ok (.iload_n 1, 1) := by decide +kernel
theorem d_M_ranks_103 : decode y_M_ranks.2.1 103 = .ok (.iconst 1, 1) := by decide +kernel
theorem d_M_ranks_104 : decode y_M_ranks.2.1 104 = .ok (.iload_n 3, 1) := by decide +kernel
theorem d_M_ranks_105 : decode y_M_ranks.2.1 105 = .ok (.ishl, 1) := by decide +kernel
theorem d_M_ranks_106 : decode y_M_ranks.2.1 106 = .ok (.ior, 1) := by decide +kernel
theorem d_M_ranks_107 : decode y_M_ranks.2.1 107 = .ok (.istore_n 1, 1) := by decide +kernel
theorem d_M_ranks_108 : decode y_M_ranks.2.1 108 = .ok (.iinc 2 1, 3) := by decide +kernel
theorem d_M_ranks_111 : decode y_M_ranks.2.1 111 = .ok (.goto (-80), 3) := by decide +kernel
theorem d_M_ranks_114 : decode y_M_ranks.2.1 114 = .ok (.return_, 1) := by decide +kernel
theorem d_M_notes_0 : decode y_M_notes.2.1 0 = .ok (.aload_n 0, 1) := by decide +kernel
theorem d_M_notes_1 : decode y_M_notes.2.1 1 = .ok (.getfield 284, 3) := by decide +kernel
theorem d_M_notes_4 : decode y_M_notes.2.1 4 = .ok (.bipush 60, 2) := by decide +kernel
theorem d_M_notes_6 : decode y_M_notes.2.1 6 = .ok (.if_icmp .ne 41, 3) := by decide +kernel
theorem d_M_notes_9 : decode y_M_notes.2.1 9 = .ok (.iconst 1, 1) := by decide +kernel
theorem d_M_notes_10 : decode y_M_notes.2.1 10 = .ok (.istore_n 2, 1) := by decide +kernel
theorem d_M_notes_11 : decode y_M_notes.2.1 11 = .ok (.iload_n 2, 1) := by decide +kernel
theorem d_M_notes_12 : decode y_M_notes.2.1 12 = .ok (.bipush 60, 2) := by decide +kernel
theorem d_M_notes_14 : decode y_M_notes.2.1 14 = .ok (.if_icmp .ge 23, 3) := by decide +kernel
theorem d_M_notes_17 : decode y_M_notes.2.1 17 = .ok (.aload_n 0, 1) := by decide +kernel
theorem d_M_notes_18 : decode y_M_notes.2.1 18 = .ok (.getfield 287, 3) := by decide +kernel
theorem d_M_notes_21 : decode y_M_notes.2.1 21 = .ok (.iload_n 2, 1) := by decide +kernel
theorem d_M_notes_22 : decode y_M_notes.2.1 22 = .ok (.iconst 1, 1) := by decide +kernel
theorem d_M_notes_23 : decode y_M_notes.2.1 23 = .ok (.isub, 1) := by decide +kernel
theorem d_M_notes_24 : decode y_M_notes.2.1 24 = .ok (.aload_n 0, 1) := by decide +kernel
theorem d_M_notes_25 : decode y_M_notes.2.1 25 = .ok (.getfield 287, 3) := by decide +kernel
theorem d_M_notes_28 : decode y_M_notes.2.1 28 = .ok (.iload_n 2, 1) := by decide +kernel
theorem d_M_notes_29 : decode y_M_notes.2.1 29 = .ok (.iaload, 1) := by decide +kernel
theorem d_M_notes_30 : decode y_M_notes.2.1 30 = .ok (.iastore, 1) := by decide +kernel
theorem d_M_notes_31 : decode y_M_notes.2.1 31 = .ok (.iinc 2 1, 3) := by decide +kernel
theorem d_M_notes_34 : decode y_M_notes.2.1 34 = .ok (.goto (-23), 3) := by decide +kernel
theorem d_M_notes_37 : decode y_M_notes.2.1 37 = .ok (.aload_n 0, 1) := by decide +kernel
theorem d_M_notes_38 : decode y_M_notes.2.1 38 = .ok (.dup, 1) := by decide +kernel
theorem d_M_notes_39 : decode y_M_notes.2.1 39 = .ok (.getfield 284, 3) := by decide +kernel
theorem d_M_notes_42 : decode y_M_notes.2.1 42 = .ok (.iconst 1, 1) := by decide +kernel
theorem d_M_notes_43 : decode y_M_notes.2.1 43 = .ok (.isub, 1) := by decide +kernel
theorem d_M_notes_44 : decode y_M_notes.2.1 44 = .ok (.putfield 284, 3) := by decide +kernel
theorem d_M_notes_47 : decode y_M_notes.2.1 47 = .ok (.aload_n 0, 1) := by decide +kernel
theorem d_M_notes_48 : decode y_M_notes.2.1 48 = .ok (.getfield 287, 3) := by decide +kernel
theorem d_M_notes_51 : decode y_M_notes.2.1 51 = .ok (.aload_n 0, 1) := by decide +kernel
theorem d_M_notes_52 : decode y_M_notes.2.1 52 = .ok (.getfield 284, 3) := by decide +kernel
theorem d_M_notes_55 : decode y_M_notes.2.1 55 = .ok (.iload_n 1, 1) := by decide +kernel
theorem d_M_notes_56 : decode y_M_notes.2.1 56 = .ok (.iastore, 1) := by decide +kernel
theorem d_M_notes_57 : decode y_M_notes.2.1 57 = .ok (.aload_n 0, 1) := by decide +kernel
theorem d_M_notes_58 : decode y_M_notes.2.1 58 = .ok (.dup, 1) := by decide +kernel
theorem d_M_notes_59 : decode y_M_notes.2.1 59 = .ok (.getfield 284, 3) := by decide +kernel
theorem d_M_notes_62 : decode y_M_notes.2.1 62 = .ok (.iconst 1, 1) := by decide +kernel
theorem d_M_notes_63 : decode y_M_notes.2.1 63 = .ok (.iadd, 1) := by decide +kernel
theorem d_M_notes_64 : decode y_M_notes.2.1 64 = .ok (.putfield 284, 3) := by decide +kernel
theorem d_M_notes_67 : decode y_M_notes.2.1 67 = .ok (.return_, 1) := by decide +kernel
theorem d_J_bitCount_0 : decode y_J_bitCount.2.1 0 = .ok (.iload_n 0, 1) := by decide +kernel
theorem d_J_bitCount_1 : decode y_J_bitCount.2.1 1 = .ok (.iload_n 0, 1) := by decide +kernel
theorem d_J_bitCount_2 : decode y_J_bitCount.2.1 2 = .ok (.iconst 1, 1) := by decide +kernel
theorem d_J_bitCount_3 : decode y_J_bitCount.2.1 3 = .ok (.iushr, 1) := by decide +kernel
theorem d_J_bitCount_4 : decode y_J_bitCount.2.1 4 = .ok (.ldc_w 265, 3) := by decide +kernel
theorem d_J_bitCount_7 : decode y_J_bitCount.2.1 7 = .ok (.iand, 1) := by decide +kernel
theorem d_J_bitCount_8 : decode y_J_bitCount.2.1 8 = .ok (.isub, 1) := by decide +kernel
theorem d_J_bitCount_9 : decode y_J_bitCount.2.1 9 = .ok (.istore_n 0, 1) := by decide +kernel
theorem d_J_bitCount_10 : decode y_J_bitCount.2.1 10 = .ok (.iload_n 0, 1) := by decide +kernel
theorem d_J_bitCount_11 : decode y_J_bitCount.2.1 11 = .ok (.ldc_w 266, 3) := by decide +kernel
theorem d_J_bitCount_14 : decode y_J_bitCount.2.1 14 = .ok (.iand, 1) := by decide +kernel
theorem d_J_bitCount_15 : decode y_J_bitCount.2.1 15 = .ok (.iload_n 0, 1) := by decide +kernel
theorem d_J_bitCount_16 : decode y_J_bitCount.2.1 16 = .ok (.iconst 2, 1) := by decide +kernel
theorem d_J_bitCount_17 : decode y_J_bitCount.2.1 17 = .ok (.iushr, 1) := by decide +kernel
theorem d_J_bitCount_18 : decode y_J_bitCount.2.1 18 = .ok (.ldc_w 266, 3) := by decide +kernel
theorem d_J_bitCount_21 : decode y_J_bitCount.2.1 21 = .ok (.iand, 1) := by decide +kernel
theorem d_J_bitCount_22 : decode y_J_bitCount.2.1 22 = .ok (.iadd, 1) := by decide +kernel
theorem d_J_bitCount_23 : decode y_J_bitCount.2.1 23 = .ok (.istore_n 0, 1) := by decide +kernel
theorem d_J_bitCount_24 : decode y_J_bitCount.2.1 24 = .ok (.iload_n 0, 1) := by decide +kernel
theorem d_J_bitCount_25 : decode y_J_bitCount.2.1 25 = .ok (.iload_n 0, 1) := by decide +kernel
theorem d_J_bitCount_26 : decode y_J_bitCount.2.1 26 = .ok (.iconst 4, 1) := by decide +kernel
theorem d_J_bitCount_27 : decode y_J_bitCount.2.1 27 = .ok (.iushr, 1) := by decide +kernel
theorem d_J_bitCount_28 : decode y_J_bitCount.2.1 28 = .ok (.iadd, 1) := by decide +kernel
theorem d_J_bitCount_29 : decode y_J_bitCount.2.1 29 = .ok (.ldc_w 267, 3) := by decide +kernel
theorem d_J_bitCount_32 : decode y_J_bitCount.2.1 32 = .ok (.iand, 1) := by decide +kernel
theorem d_J_bitCount_33 : decode y_J_bitCount.2.1 33 = .ok (.istore_n 0, 1) := by decide +kernel
theorem d_J_bitCount_34 : decode y_J_bitCount.2.1 34 = .ok (.iload_n 0, 1) := by decide +kernel
theorem d_J_bitCount_35 : decode y_J_bitCount.2.1 35 = .ok (.iload_n 0, 1) := by decide +kernel
theorem d_J_bitCount_36 : decode y_J_bitCount.2.1 36 = .ok (.bipush 8, 2) := by decide +kernel
theorem d_J_bitCount_38 : decode y_J_bitCount.2.1 38 = .ok (.iushr, 1) := by decide +kernel
theorem d_J_bitCount_39 : decode y_J_bitCount.2.1 39 = .ok (.iadd, 1) := by decide +kernel
theorem d_J_bitCount_40 : decode y_J_bitCount.2.1 40 = .ok (.istore_n 0, 1) := by decide +kernel
theorem d_J_bitCount_41 : decode y_J_bitCount.2.1 41 = .ok (.iload_n 0, 1) := by decide +kernel
theorem d_J_bitCount_42 : decode y_J_bitCount.2.1 42 = .ok (.iload_n 0, 1) := by decide +kernel
theorem d_J_bitCount_43 : decode y_J_bitCount.2.1 43 = .ok (.bipush 16, 2) := by decide +kernel
theorem d_J_bitCount_45 : decode y_J_bitCount.2.1 45 = .ok (.iushr, 1) := by decide +kernel
theorem d_J_bitCount_46 : decode y_J_bitCount.2.1 46 = .ok (.iadd, 1) := by decide +kernel
theorem d_J_bitCount_47 : decode y_J_bitCount.2.1 47 = .ok (.istore_n 0, 1) := by decide +kernel
theorem d_J_bitCount_48 : decode y_J_bitCount.2.1 48 = .ok (.iload_n 0, 1) := by decide +kernel
theorem d_J_bitCount_49 : decode y_J_bitCount.2.1 49 = .ok (.bipush 63, 2) := by decide +kernel
theorem d_J_bitCount_51 : decode y_J_bitCount.2.1 51 = .ok (.iand, 1) := by decide +kernel
theorem d_J_bitCount_52 : decode y_J_bitCount.2.1 52 = .ok (.ireturn, 1) := by decide +kernel
theorem d_J_numberOfTrailingZeros_0 : decode y_J_numberOfTrailingZeros.2.1 0 = .ok (.iload_n 0, 1) := by decide +kernel
theorem d_J_numberOfTrailingZeros_1 : decode y_J_numberOfTrailingZeros.2.1 1 = .ok (.iconst (-1), 1) := by decide +kernel
theorem d_J_numberOfTrailingZeros_2 : decode y_J_numberOfTrailingZeros.2.1 2 = .ok (.ixor, 1) := by decide +kernel
theorem d_J_numberOfTrailingZeros_3 : decode y_J_numberOfTrailingZeros.2.1 3 = .ok (.iload_n 0, 1) := by decide +kernel
theorem d_J_numberOfTrailingZeros_4 : decode y_J_numberOfTrailingZeros.2.1 4 = .ok (.iconst 1, 1) := by decide +kernel
theorem d_J_numberOfTrailingZeros_5 : decode y_J_numberOfTrailingZeros.2.1 5 = .ok (.isub, 1) := by decide +kernel
theorem d_J_numberOfTrailingZeros_6 : decode y_J_numberOfTrailingZeros.2.1 6 = .ok (.iand, 1) := by decide +kernel
theorem d_J_numberOfTrailingZeros_7 : decode y_J_numberOfTrailingZeros.2.1 7 = .ok (.istore_n 0, 1) := by decide +kernel
theorem d_J_numberOfTrailingZeros_8 : decode y_J_numberOfTrailingZeros.2.1 8 = .ok (.iload_n 0, 1) := by decide +kernel
theorem d_J_numberOfTrailingZeros_9 : decode y_J_numberOfTrailingZeros.2.1 9 = .ok (.ifCond .gt 8, 3) := by decide +kernel
theorem d_J_numberOfTrailingZeros_12 : decode y_J_numberOfTrailingZeros.2.1 12 = .ok (.iload_n 0, 1) := by decide +kernel
theorem d_J_numberOfTrailingZeros_13 : decode y_J_numberOfTrailingZeros.2.1 13 = .ok (.bipush 32, 2) := by decide +kernel
theorem d_J_numberOfTrailingZeros_15 : decode y_J_numberOfTrailingZeros.2.1 15 = .ok (.iand, 1) := by decide +kernel
theorem d_J_numberOfTrailingZeros_16 : decode y_J_numberOfTrailingZeros.2.1 16 = .ok (.ireturn, 1) := by decide +kernel
theorem d_J_numberOfTrailingZeros_17 : decode y_J_numberOfTrailingZeros.2.1 17 = .ok (.iconst 1, 1) := by decide +kernel
theorem d_J_numberOfTrailingZeros_18 : decode y_J_numberOfTrailingZeros.2.1 18 = .ok (.istore_n 1, 1) := by decide +kernel
theorem d_J_numberOfTrailingZeros_19 : decode y_J_numberOfTrailingZeros.2.1 19 = .ok (.iload_n 0, 1) := by decide +kernel
theorem d_J_numberOfTrailingZeros_20 : decode y_J_numberOfTrailingZeros.2.1 20 = .ok (.ldc_w 264, 3) := by decide +kernel
theorem d_J_numberOfTrailingZeros_23 : decode y_J_numberOfTrailingZeros.2.1 23 = .ok (.if_icmp .le 11, 3) := by decide +kernel
theorem d_J_numberOfTrailingZeros_26 : decode y_J_numberOfTrailingZeros.2.1 26 = .ok (.iinc 1 16, 3) := by decide +kernel
theorem d_J_numberOfTrailingZeros_29 : decode y_J_numberOfTrailingZeros.2.1 29 = .ok (.iload_n 0, 1) := by decide +kernel
theorem d_J_numberOfTrailingZeros_30 : decode y_J_numberOfTrailingZeros.2.1 30 = .ok (.bipush 16, 2) := by decide +kernel
theorem d_J_numberOfTrailingZeros_32 : decode y_J_numberOfTrailingZeros.2.1 32 = .ok (.iushr, 1) := by decide +kernel
theorem d_J_numberOfTrailingZeros_33 : decode y_J_numberOfTrailingZeros.2.1 33 = .ok (.istore_n 0, 1) := by decide +kernel
theorem d_J_numberOfTrailingZeros_34 : decode y_J_numberOfTrailingZeros.2.1 34 = .ok (.iload_n 0, 1) := by decide +kernel
theorem d_J_numberOfTrailingZeros_35 : decode y_J_numberOfTrailingZeros.2.1 35 = .ok (.sipush 256, 3) := by decide +kernel
theorem d_J_numberOfTrailingZeros_38 : decode y_J_numberOfTrailingZeros.2.1 38 = .ok (.if_icmp .le 11, 3) := by decide +kernel
theorem d_J_numberOfTrailingZeros_41 : decode y_J_numberOfTrailingZeros.2.1 41 = .ok (.iinc 1 8, 3) := by decide +kernel
theorem d_J_numberOfTrailingZeros_44 : decode y_J_numberOfTrailingZeros.2.1 44 = .ok (.iload_n 0, 1) := by decide +kernel
theorem d_J_numberOfTrailingZeros_45 : decode y_J_numberOfTrailingZeros.2.1 45 = .ok (.bipush 8, 2) := by decide +kernel
theorem d_J_numberOfTrailingZeros_47 : decode y_J_numberOfTrailingZeros.2.1 47 = .ok (.iushr, 1) := by decide +kernel
theorem d_J_numberOfTrailingZeros_48 : decode y_J_numberOfTrailingZeros.2.1 48 = .ok (.istore_n 0, 1) := by decide +kernel
theorem d_J_numberOfTrailingZeros_49 : decode y_J_numberOfTrailingZeros.2.1 49 = .ok (.iload_n 0, 1) := by decide +kernel
theorem d_J_numberOfTrailingZeros_50 : decode y_J_numberOfTrailingZeros.2.1 50 = .ok (.bipush 16, 2) := by decide +kernel
theorem d_J_numberOfTrailingZeros_52 : decode y_J_numberOfTrailingZeros.2.1 52 = .ok (.if_icmp .le 10, 3) := by decide +kernel
theorem d_J_numberOfTrailingZeros_55 : decode y_J_numberOfTrailingZeros.2.1 55 = .ok (.iinc 1 4, 3) := by decide +kernel
theorem d_J_numberOfTrailingZeros_58 : decode y_J_numberOfTrailingZeros.2.1 58 = .ok (.iload_n 0, 1) := by decide +kernel
theorem d_J_numberOfTrailingZeros_59 : decode y_J_numberOfTrailingZeros.2.1 59 = .ok (.iconst 4, 1) := by decide +kernel
theorem d_J_numberOfTrailingZeros_60 : decode y_J_numberOfTrailingZeros.2.1 60 = .ok (.iushr, 1) := by decide +kernel
theorem d_J_numberOfTrailingZeros_61 : decode y_J_numberOfTrailingZeros.2.1 61 = .ok (.istore_n 0, 1) := by decide +kernel
theorem d_J_numberOfTrailingZeros_62 : decode y_J_numberOfTrailingZeros.2.1 62 = .ok (.iload_n 0, 1) := by decide +kernel
theorem d_J_numberOfTrailingZeros_63 : decode y_J_numberOfTrailingZeros.2.1 63 = .ok (.iconst 4, 1) := by decide +kernel
theorem d_J_numberOfTrailingZeros_64 : decode y_J_numberOfTrailingZeros.2.1 64 = .ok (.if_icmp .le 10, 3) := by decide +kernel
theorem d_J_numberOfTrailingZeros_67 : decode y_J_numberOfTrailingZeros.2.1 67 = .ok (.iinc 1 2, 3) := by decide +kernel
theorem d_J_numberOfTrailingZeros_70 : decode y_J_numberOfTrailingZeros.2.1 70 = .ok (.iload_n 0, 1) := by decide +kernel
theorem d_J_numberOfTrailingZeros_71 : decode y_J_numberOfTrailingZeros.2.1 71 = .ok (.iconst 2, 1) := by decide +kernel
theorem d_J_numberOfTrailingZeros_72 : decode y_J_numberOfTrailingZeros.2.1 72 = .ok (.iushr, 1) := by decide +kernel
theorem d_J_numberOfTrailingZeros_73 : decode y_J_numberOfTrailingZeros.2.1 73 = .ok (.istore_n 0, 1) := by decide +kernel
theorem d_J_numberOfTrailingZeros_74 : decode y_J_numberOfTrailingZeros.2.1 74 = .ok (.iload_n 1, 1) := by decide +kernel
theorem d_J_numberOfTrailingZeros_75 : decode y_J_numberOfTrailingZeros.2.1 75 = .ok (.iload_n 0, 1) := by decide +kernel
theorem d_J_numberOfTrailingZeros_76 : decode y_J_numberOfTrailingZeros.2.1 76 = .ok (.iconst 1, 1) := by decide +kernel
theorem d_J_numberOfTrailingZeros_77 : decode y_J_numberOfTrailingZeros.2.1 77 = .ok (.iushr, 1) := by decide +kernel
theorem d_J_numberOfTrailingZeros_78 : decode y_J_numberOfTrailingZeros.2.1 78 = .ok (.iadd, 1) := by decide +kernel
theorem d_J_numberOfTrailingZeros_79 : decode y_J_numberOfTrailingZeros.2.1 79 = .ok (.ireturn, 1) := by decide +kernel
