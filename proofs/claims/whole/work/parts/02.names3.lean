theorem dX8_adds_52 : decode cX8_adds 52 = .ok (.iastore, 1) := by decide +kernel
theorem dX8_adds_53 : decode cX8_adds 53 = .ok (.return_, 1) := by decide +kernel
theorem dX8_words_0 : decode cX8_words 0 = .ok (.iconst 1, 1) := by decide +kernel
theorem dX8_words_1 : decode cX8_words 1 = .ok (.istore_n 2, 1) := by decide +kernel
theorem dX8_words_2 : decode cX8_words 2 = .ok (.iconst 0, 1) := by decide +kernel
theorem dX8_words_3 : decode cX8_words 3 = .ok (.istore_n 3, 1) := by decide +kernel
theorem dX8_words_4 : decode cX8_words 4 = .ok (.iload_n 3, 1) := by decide +kernel
theorem dX8_words_5 : decode cX8_words 5 = .ok (.aload_n 0, 1) := by decide +kernel
theorem dX8_words_6 : decode cX8_words 6 = .ok (.iload_n 1, 1) := by decide +kernel
theorem dX8_words_7 : decode cX8_words 7 = .ok (.invokevirtual 105, 3) := by decide +kernel
theorem dX8_words_10 : decode cX8_words 10 = .ok (.if_icmp .ge 18, 3) := by decide +kernel
theorem dX8_words_13 : decode cX8_words 13 = .ok (.iload_n 2, 1) := by decide +kernel
theorem dX8_words_14 : decode cX8_words 14 = .ok (.aload_n 0, 1) := by decide +kernel
theorem dX8_words_15 : decode cX8_words 15 = .ok (.iload_n 1, 1) := by decide +kernel
theorem dX8_words_16 : decode cX8_words 16 = .ok (.iload_n 3, 1) := by decide +kernel
theorem dX8_words_17 : decode cX8_words 17 = .ok (.invokevirtual 109, 3) := by decide +kernel
theorem dX8_words_20 : decode cX8_words 20 = .ok (.imul, 1) := by decide +kernel
theorem dX8_words_21 : decode cX8_words 21 = .ok (.istore_n 2, 1) := by decide +kernel
theorem dX8_words_22 : decode cX8_words 22 = .ok (.iinc 3 1, 3) := by decide +kernel
theorem dX8_words_25 : decode cX8_words 25 = .ok (.goto (-21), 3) := by decide +kernel
theorem dX8_words_28 : decode cX8_words 28 = .ok (.iload_n 2, 1) := by decide +kernel
theorem dX8_words_29 : decode cX8_words 29 = .ok (.ireturn, 1) := by decide +kernel
theorem dX8_digitOf_0 : decode cX8_digitOf 0 = .ok (.iload_n 2, 1) := by decide +kernel
theorem dX8_digitOf_1 : decode cX8_digitOf 1 = .ok (.istore 4, 2) := by decide +kernel
theorem dX8_digitOf_3 : decode cX8_digitOf 3 = .ok (.aload_n 0, 1) := by decide +kernel
theorem dX8_digitOf_4 : decode cX8_digitOf 4 = .ok (.iload_n 1, 1) := by decide +kernel
theorem dX8_digitOf_5 : decode cX8_digitOf 5 = .ok (.invokevirtual 105, 3) := by decide +kernel
theorem dX8_digitOf_8 : decode cX8_digitOf 8 = .ok (.iconst 1, 1) := by decide +kernel
theorem dX8_digitOf_9 : decode cX8_digitOf 9 = .ok (.isub, 1) := by decide +kernel
theorem dX8_digitOf_10 : decode cX8_digitOf 10 = .ok (.istore 5, 2) := by decide +kernel
theorem dX8_digitOf_12 : decode cX8_digitOf 12 = .ok (.iload 5, 2) := by decide +kernel
theorem dX8_digitOf_14 : decode cX8_digitOf 14 = .ok (.iload_n 3, 1) := by decide +kernel
theorem dX8_digitOf_15 : decode cX8_digitOf 15 = .ok (.if_icmp .le 21, 3) := by decide +kernel
theorem dX8_digitOf_18 : decode cX8_digitOf 18 = .ok (.iload 4, 2) := by decide +kernel
theorem dX8_digitOf_20 : decode cX8_digitOf 20 = .ok (.aload_n 0, 1) := by decide +kernel
theorem dX8_digitOf_21 : decode cX8_digitOf 21 = .ok (.iload_n 1, 1) := by decide +kernel
theorem dX8_digitOf_22 : decode cX8_digitOf 22 = .ok (.iload 5, 2) := by decide +kernel
theorem dX8_digitOf_24 : decode cX8_digitOf 24 = .ok (.invokevirtual 109, 3) := by decide +kernel
theorem dX8_digitOf_27 : decode cX8_digitOf 27 = .ok (.idiv, 1) := by decide +kernel
theorem dX8_digitOf_28 : decode cX8_digitOf 28 = .ok (.istore 4, 2) := by decide +kernel
theorem dX8_digitOf_30 : decode cX8_digitOf 30 = .ok (.iinc 5 (-1), 3) := by decide +kernel
theorem dX8_digitOf_33 : decode cX8_digitOf 33 = .ok (.goto (-21), 3) := by decide +kernel
theorem dX8_digitOf_36 : decode cX8_digitOf 36 = .ok (.iload 4, 2) := by decide +kernel
theorem dX8_digitOf_38 : decode cX8_digitOf 38 = .ok (.aload_n 0, 1) := by decide +kernel
theorem dX8_digitOf_39 : decode cX8_digitOf 39 = .ok (.iload_n 1, 1) := by decide +kernel
theorem dX8_digitOf_40 : decode cX8_digitOf 40 = .ok (.iload_n 3, 1) := by decide +kernel
theorem dX8_digitOf_41 : decode cX8_digitOf 41 = .ok (.invokevirtual 109, 3) := by decide +kernel
theorem dX8_digitOf_44 : decode cX8_digitOf 44 = .ok (.irem, 1) := by decide +kernel
theorem dX8_digitOf_45 : decode cX8_digitOf 45 = .ok (.ireturn, 1) := by decide +kernel
theorem dX8_many_0 : decode cX8_many 0 = .ok (.iconst 0, 1) := by decide +kernel
theorem dX8_many_1 : decode cX8_many 1 = .ok (.istore_n 2, 1) := by decide +kernel
theorem dX8_many_2 : decode cX8_many 2 = .ok (.iconst 0, 1) := by decide +kernel
theorem dX8_many_3 : decode cX8_many 3 = .ok (.istore_n 3, 1) := by decide +kernel
theorem dX8_many_4 : decode cX8_many 4 = .ok (.iload_n 3, 1) := by decide +kernel
theorem dX8_many_5 : decode cX8_many 5 = .ok (.aload_n 0, 1) := by decide +kernel
theorem dX8_many_6 : decode cX8_many 6 = .ok (.iload_n 1, 1) := by decide +kernel
theorem dX8_many_7 : decode cX8_many 7 = .ok (.invokevirtual 113, 3) := by decide +kernel
theorem dX8_many_10 : decode cX8_many 10 = .ok (.if_icmp .ge 26, 3) := by decide +kernel
theorem dX8_many_13 : decode cX8_many 13 = .ok (.iload_n 2, 1) := by decide +kernel
theorem dX8_many_14 : decode cX8_many 14 = .ok (.aload_n 0, 1) := by decide +kernel
theorem dX8_many_15 : decode cX8_many 15 = .ok (.iload_n 1, 1) := by decide +kernel
theorem dX8_many_16 : decode cX8_many 16 = .ok (.iload_n 3, 1) := by decide +kernel
theorem dX8_many_17 : decode cX8_many 17 = .ok (.invokevirtual 116, 3) := by decide +kernel
theorem dX8_many_20 : decode cX8_many 20 = .ok (.ifCond .eq 7, 3) := by decide +kernel
theorem dX8_many_23 : decode cX8_many 23 = .ok (.iconst 1, 1) := by decide +kernel
theorem dX8_many_24 : decode cX8_many 24 = .ok (.goto 4, 3) := by decide +kernel
theorem dX8_many_27 : decode cX8_many 27 = .ok (.iconst 0, 1) := by decide +kernel
theorem dX8_many_28 : decode cX8_many 28 = .ok (.iadd, 1) := by decide +kernel
theorem dX8_many_29 : decode cX8_many 29 = .ok (.istore_n 2, 1) := by decide +kernel
theorem dX8_many_30 : decode cX8_many 30 = .ok (.iinc 3 1, 3) := by decide +kernel
theorem dX8_many_33 : decode cX8_many 33 = .ok (.goto (-29), 3) := by decide +kernel
theorem dX8_many_36 : decode cX8_many 36 = .ok (.iload_n 2, 1) := by decide +kernel
theorem dX8_many_37 : decode cX8_many 37 = .ok (.ireturn, 1) := by decide +kernel
theorem dX8_farOf_0 : decode cX8_farOf 0 = .ok (.iload_n 2, 1) := by decide +kernel
theorem dX8_farOf_1 : decode cX8_farOf 1 = .ok (.istore 4, 2) := by decide +kernel
theorem dX8_farOf_3 : decode cX8_farOf 3 = .ok (.iload_n 3, 1) := by decide +kernel
theorem dX8_farOf_4 : decode cX8_farOf 4 = .ok (.istore 5, 2) := by decide +kernel
theorem dX8_farOf_6 : decode cX8_farOf 6 = .ok (.iconst 0, 1) := by decide +kernel
theorem dX8_farOf_7 : decode cX8_farOf 7 = .ok (.istore 6, 2) := by decide +kernel
theorem dX8_farOf_9 : decode cX8_farOf 9 = .ok (.aload_n 0, 1) := by decide +kernel
theorem dX8_farOf_10 : decode cX8_farOf 10 = .ok (.iload_n 1, 1) := by decide +kernel
theorem dX8_farOf_11 : decode cX8_farOf 11 = .ok (.invokevirtual 105, 3) := by decide +kernel
theorem dX8_farOf_14 : decode cX8_farOf 14 = .ok (.iconst 1, 1) := by decide +kernel
theorem dX8_farOf_15 : decode cX8_farOf 15 = .ok (.isub, 1) := by decide +kernel
theorem dX8_farOf_16 : decode cX8_farOf 16 = .ok (.istore 7, 2) := by decide +kernel
theorem dX8_farOf_18 : decode cX8_farOf 18 = .ok (.iload 7, 2) := by decide +kernel
theorem dX8_farOf_20 : decode cX8_farOf 20 = .ok (.ifCond .lt 57, 3) := by decide +kernel
theorem dX8_farOf_23 : decode cX8_farOf 23 = .ok (.aload_n 0, 1) := by decide +kernel
theorem dX8_farOf_24 : decode cX8_farOf 24 = .ok (.iload_n 1, 1) := by decide +kernel
theorem dX8_farOf_25 : decode cX8_farOf 25 = .ok (.iload 7, 2) := by decide +kernel
theorem dX8_farOf_27 : decode cX8_farOf 27 = .ok (.invokevirtual 109, 3) := by decide +kernel
theorem dX8_farOf_30 : decode cX8_farOf 30 = .ok (.istore 8, 2) := by decide +kernel
theorem dX8_farOf_32 : decode cX8_farOf 32 = .ok (.iload 4, 2) := by decide +kernel
theorem dX8_farOf_34 : decode cX8_farOf 34 = .ok (.iload 8, 2) := by decide +kernel
theorem dX8_farOf_36 : decode cX8_farOf 36 = .ok (.irem, 1) := by decide +kernel
theorem dX8_farOf_37 : decode cX8_farOf 37 = .ok (.iload 5, 2) := by decide +kernel
theorem dX8_farOf_39 : decode cX8_farOf 39 = .ok (.iload 8, 2) := by decide +kernel
theorem dX8_farOf_41 : decode cX8_farOf 41 = .ok (.irem, 1) := by decide +kernel
theorem dX8_farOf_42 : decode cX8_farOf 42 = .ok (.if_icmp .eq 15, 3) := by decide +kernel
theorem dX8_farOf_45 : decode cX8_farOf 45 = .ok (.iload 6, 2) := by decide +kernel
theorem dX8_farOf_47 : decode cX8_farOf 47 = .ok (.aload_n 0, 1) := by decide +kernel
theorem dX8_farOf_48 : decode cX8_farOf 48 = .ok (.iload_n 1, 1) := by decide +kernel
theorem dX8_farOf_49 : decode cX8_farOf 49 = .ok (.iload 7, 2) := by decide +kernel
theorem dX8_farOf_51 : decode cX8_farOf 51 = .ok (.invokevirtual 120, 3) := by decide +kernel
theorem dX8_farOf_54 : decode cX8_farOf 54 = .ok (.iadd, 1) := by decide +kernel
theorem dX8_farOf_55 : decode cX8_farOf 55 = .ok (.istore 6, 2) := by decide +kernel
theorem dX8_farOf_57 : decode cX8_farOf 57 = .ok (.iload 4, 2) := by decide +kernel
theorem dX8_farOf_59 : decode cX8_farOf 59 = .ok (.iload 8, 2) := by decide +kernel
theorem dX8_farOf_61 : decode cX8_farOf 61 = .ok (.idiv, 1) := by decide +kernel
theorem dX8_farOf_62 : decode cX8_farOf 62 = .ok (.istore 4, 2) := by decide +kernel
theorem dX8_farOf_64 : decode cX8_farOf 64 = .ok (.iload 5, 2) := by decide +kernel
theorem dX8_farOf_66 : decode cX8_farOf 66 = .ok (.iload 8, 2) := by decide +kernel
theorem dX8_farOf_68 : decode cX8_farOf 68 = .ok (.idiv, 1) := by decide +kernel
theorem dX8_farOf_69 : decode cX8_farOf 69 = .ok (.istore 5, 2) := by decide +kernel
theorem dX8_farOf_71 : decode cX8_farOf 71 = .ok (.iinc 7 (-1), 3) := by decide +kernel
theorem dX8_farOf_74 : decode cX8_farOf 74 = .ok (.goto (-56), 3) := by decide +kernel
theorem dX8_farOf_77 : decode cX8_farOf 77 = .ok (.iload 6, 2) := by decide +kernel
theorem dX8_farOf_79 : decode cX8_farOf 79 = .ok (.ireturn, 1) := by decide +kernel
theorem dX8_isOwn_0 : decode cX8_isOwn 0 = .ok (.aload_n 0, 1) := by decide +kernel
theorem dX8_isOwn_1 : decode cX8_isOwn 1 = .ok (.ldc 123, 2) := by decide +kernel
theorem dX8_isOwn_3 : decode cX8_isOwn 3 = .ok (.invokevirtual 125, 3) := by decide +kernel
theorem dX8_isOwn_6 : decode cX8_isOwn 6 = .ok (.ifCond .ne 21, 3) := by decide +kernel
theorem dX8_isOwn_9 : decode cX8_isOwn 9 = .ok (.aload_n 0, 1) := by decide +kernel
theorem dX8_isOwn_10 : decode cX8_isOwn 10 = .ok (.ldc 129, 2) := by decide +kernel
theorem dX8_isOwn_12 : decode cX8_isOwn 12 = .ok (.invokevirtual 125, 3) := by decide +kernel
theorem dX8_isOwn_15 : decode cX8_isOwn 15 = .ok (.ifCond .ne 12, 3) := by decide +kernel
theorem dX8_isOwn_18 : decode cX8_isOwn 18 = .ok (.aload_n 0, 1) := by decide +kernel
theorem dX8_isOwn_19 : decode cX8_isOwn 19 = .ok (.ldc 131, 2) := by decide +kernel
theorem dX8_isOwn_21 : decode cX8_isOwn 21 = .ok (.invokevirtual 125, 3) := by decide +kernel
theorem dX8_isOwn_24 : decode cX8_isOwn 24 = .ok (.ifCond .eq 7, 3) := by decide +kernel
theorem dX8_isOwn_27 : decode cX8_isOwn 27 = .ok (.iconst 1, 1) := by decide +kernel
theorem dX8_isOwn_28 : decode cX8_isOwn 28 = .ok (.goto 4, 3) := by decide +kernel
theorem dX8_isOwn_31 : decode cX8_isOwn 31 = .ok (.iconst 0, 1) := by decide +kernel
theorem dX8_isOwn_32 : decode cX8_isOwn 32 = .ok (.ireturn, 1) := by decide +kernel
theorem dX8_oneDigit_0 : decode cX8_oneDigit 0 = .ok (.aload_n 0, 1) := by decide +kernel
theorem dX8_oneDigit_1 : decode cX8_oneDigit 1 = .ok (.getfield 67, 3) := by decide +kernel
theorem dX8_oneDigit_4 : decode cX8_oneDigit 4 = .ok (.aload_n 0, 1) := by decide +kernel
theorem dX8_oneDigit_5 : decode cX8_oneDigit 5 = .ok (.getfield 54, 3) := by decide +kernel
theorem dX8_oneDigit_8 : decode cX8_oneDigit 8 = .ok (.isub, 1) := by decide +kernel
theorem dX8_oneDigit_9 : decode cX8_oneDigit 9 = .ok (.iconst 1, 1) := by decide +kernel
theorem dX8_oneDigit_10 : decode cX8_oneDigit 10 = .ok (.if_icmp .ne 18, 3) := by decide +kernel
theorem dX8_oneDigit_13 : decode cX8_oneDigit 13 = .ok (.aload_n 0, 1) := by decide +kernel
theorem dX8_oneDigit_14 : decode cX8_oneDigit 14 = .ok (.getfield 13, 3) := by decide +kernel
theorem dX8_oneDigit_17 : decode cX8_oneDigit 17 = .ok (.aload_n 0, 1) := by decide +kernel
theorem dX8_oneDigit_18 : decode cX8_oneDigit 18 = .ok (.getfield 54, 3) := by decide +kernel
theorem dX8_oneDigit_21 : decode cX8_oneDigit 21 = .ok (.iaload, 1) := by decide +kernel
theorem dX8_oneDigit_22 : decode cX8_oneDigit 22 = .ok (.bipush 48, 2) := by decide +kernel
theorem dX8_oneDigit_24 : decode cX8_oneDigit 24 = .ok (.isub, 1) := by decide +kernel
theorem dX8_oneDigit_25 : decode cX8_oneDigit 25 = .ok (.goto 4, 3) := by decide +kernel
theorem dX8_oneDigit_28 : decode cX8_oneDigit 28 = .ok (.iconst (-1), 1) := by decide +kernel
theorem dX8_oneDigit_29 : decode cX8_oneDigit 29 = .ok (.ireturn, 1) := by decide +kernel
theorem dX8_readSizes_0 : decode cX8_readSizes 0 = .ok (.iconst 1, 1) := by decide +kernel
theorem dX8_readSizes_1 : decode cX8_readSizes 1 = .ok (.istore_n 2, 1) := by decide +kernel
theorem dX8_readSizes_2 : decode cX8_readSizes 2 = .ok (.iload_n 2, 1) := by decide +kernel
theorem dX8_readSizes_3 : decode cX8_readSizes 3 = .ok (.ifCond .eq 116, 3) := by decide +kernel
theorem dX8_readSizes_6 : decode cX8_readSizes 6 = .ok (.aload_n 0, 1) := by decide +kernel
theorem dX8_readSizes_7 : decode cX8_readSizes 7 = .ok (.getfield 70, 3) := by decide +kernel
theorem dX8_readSizes_10 : decode cX8_readSizes 10 = .ok (.iconst 3, 1) := by decide +kernel
theorem dX8_readSizes_11 : decode cX8_readSizes 11 = .ok (.if_icmp .eq 11, 3) := by decide +kernel
theorem dX8_readSizes_14 : decode cX8_readSizes 14 = .ok (.aload_n 0, 1) := by decide +kernel
theorem dX8_readSizes_15 : decode cX8_readSizes 15 = .ok (.iconst 1, 1) := by decide +kernel
theorem dX8_readSizes_16 : decode cX8_readSizes 16 = .ok (.invokevirtual 133, 3) := by decide +kernel
theorem dX8_readSizes_19 : decode cX8_readSizes 19 = .ok (.goto 54, 3) := by decide +kernel
theorem dX8_readSizes_22 : decode cX8_readSizes 22 = .ok (.aload_n 0, 1) := by decide +kernel
theorem dX8_readSizes_23 : decode cX8_readSizes 23 = .ok (.invokevirtual 137, 3) := by decide +kernel
theorem dX8_readSizes_26 : decode cX8_readSizes 26 = .ok (.iconst 2, 1) := by decide +kernel
theorem dX8_readSizes_27 : decode cX8_readSizes 27 = .ok (.iconst 4, 1) := by decide +kernel
theorem dX8_readSizes_28 : decode cX8_readSizes 28 = .ok (.invokestatic 63, 3) := by decide +kernel
theorem dX8_readSizes_31 : decode cX8_readSizes 31 = .ok (.ifCond .ne 11, 3) := by decide +kernel
theorem dX8_readSizes_34 : decode cX8_readSizes 34 = .ok (.aload_n 0, 1) := by decide +kernel
theorem dX8_readSizes_35 : decode cX8_readSizes 35 = .ok (.iconst 2, 1) := by decide +kernel
theorem dX8_readSizes_36 : decode cX8_readSizes 36 = .ok (.invokevirtual 133, 3) := by decide +kernel
theorem dX8_readSizes_39 : decode cX8_readSizes 39 = .ok (.goto 34, 3) := by decide +kernel
theorem dX8_readSizes_42 : decode cX8_readSizes 42 = .ok (.aload_n 0, 1) := by decide +kernel
theorem dX8_readSizes_43 : decode cX8_readSizes 43 = .ok (.iload_n 1, 1) := by decide +kernel
theorem dX8_readSizes_44 : decode cX8_readSizes 44 = .ok (.invokevirtual 105, 3) := by decide +kernel
theorem dX8_readSizes_47 : decode cX8_readSizes 47 = .ok (.bipush 8, 2) := by decide +kernel
theorem dX8_readSizes_49 : decode cX8_readSizes 49 = .ok (.if_icmp .eq 19, 3) := by decide +kernel
theorem dX8_readSizes_52 : decode cX8_readSizes 52 = .ok (.aload_n 0, 1) := by decide +kernel
theorem dX8_readSizes_53 : decode cX8_readSizes 53 = .ok (.iload_n 1, 1) := by decide +kernel
theorem dX8_readSizes_54 : decode cX8_readSizes 54 = .ok (.invokevirtual 113, 3) := by decide +kernel
theorem dX8_readSizes_57 : decode cX8_readSizes 57 = .ok (.aload_n 0, 1) := by decide +kernel
theorem dX8_readSizes_58 : decode cX8_readSizes 58 = .ok (.invokevirtual 137, 3) := by decide +kernel
theorem dX8_readSizes_61 : decode cX8_readSizes 61 = .ok (.imul, 1) := by decide +kernel
theorem dX8_readSizes_62 : decode cX8_readSizes 62 = .ok (.sipush 256, 3) := by decide +kernel
theorem dX8_readSizes_65 : decode cX8_readSizes 65 = .ok (.if_icmp .le 8, 3) := by decide +kernel
theorem dX8_readSizes_68 : decode cX8_readSizes 68 = .ok (.aload_n 0, 1) := by decide +kernel
theorem dX8_readSizes_69 : decode cX8_readSizes 69 = .ok (.iconst 4, 1) := by decide +kernel
theorem dX8_readSizes_70 : decode cX8_readSizes 70 = .ok (.invokevirtual 133, 3) := by decide +kernel
theorem dX8_readSizes_73 : decode cX8_readSizes 73 = .ok (.aload_n 0, 1) := by decide +kernel
theorem dX8_readSizes_74 : decode cX8_readSizes 74 = .ok (.getfield 51, 3) := by decide +kernel
theorem dX8_readSizes_77 : decode cX8_readSizes 77 = .ok (.ifCond .le 4, 3) := by decide +kernel
theorem dX8_readSizes_80 : decode cX8_readSizes 80 = .ok (.return_, 1) := by decide +kernel
theorem dX8_readSizes_81 : decode cX8_readSizes 81 = .ok (.aload_n 0, 1) := by decide +kernel
theorem dX8_readSizes_82 : decode cX8_readSizes 82 = .ok (.iload_n 1, 1) := by decide +kernel
theorem dX8_readSizes_83 : decode cX8_readSizes 83 = .ok (.aload_n 0, 1) := by decide +kernel
theorem dX8_readSizes_84 : decode cX8_readSizes 84 = .ok (.invokevirtual 137, 3) := by decide +kernel
theorem dX8_readSizes_87 : decode cX8_readSizes 87 = .ok (.iconst 1, 1) := by decide +kernel
theorem dX8_readSizes_88 : decode cX8_readSizes 88 = .ok (.invokevirtual 140, 3) := by decide +kernel
theorem dX8_readSizes_91 : decode cX8_readSizes 91 = .ok (.aload_n 0, 1) := by decide +kernel
theorem dX8_readSizes_92 : decode cX8_readSizes 92 = .ok (.invokevirtual 144, 3) := by decide +kernel
theorem dX8_readSizes_95 : decode cX8_readSizes 95 = .ok (.aload_n 0, 1) := by decide +kernel
theorem dX8_readSizes_96 : decode cX8_readSizes 96 = .ok (.getfield 51, 3) := by decide +kernel
theorem dX8_readSizes_99 : decode cX8_readSizes 99 = .ok (.ifCond .ne 15, 3) := by decide +kernel
theorem dX8_readSizes_102 : decode cX8_readSizes 102 = .ok (.aload_n 0, 1) := by decide +kernel
theorem dX8_readSizes_103 : decode cX8_readSizes 103 = .ok (.getfield 70, 3) := by decide +kernel
theorem dX8_readSizes_106 : decode cX8_readSizes 106 = .ok (.iconst 3, 1) := by decide +kernel
theorem dX8_readSizes_107 : decode cX8_readSizes 107 = .ok (.if_icmp .ne 7, 3) := by decide +kernel
theorem dX8_readSizes_110 : decode cX8_readSizes 110 = .ok (.iconst 1, 1) := by decide +kernel
theorem dX8_readSizes_111 : decode cX8_readSizes 111 = .ok (.goto 4, 3) := by decide +kernel
theorem dX8_readSizes_114 : decode cX8_readSizes 114 = .ok (.iconst 0, 1) := by decide +kernel
theorem dX8_readSizes_115 : decode cX8_readSizes 115 = .ok (.istore_n 2, 1) := by decide +kernel
theorem dX8_readSizes_116 : decode cX8_readSizes 116 = .ok (.goto (-114), 3) := by decide +kernel
theorem dX8_readSizes_119 : decode cX8_readSizes 119 = .ok (.return_, 1) := by decide +kernel
theorem dX8_readWeights_0 : decode cX8_readWeights 0 = .ok (.aload_n 0, 1) := by decide +kernel
theorem dX8_readWeights_1 : decode cX8_readWeights 1 = .ok (.invokevirtual 144, 3) := by decide +kernel
theorem dX8_readWeights_4 : decode cX8_readWeights 4 = .ok (.iconst 0, 1) := by decide +kernel
theorem dX8_readWeights_5 : decode cX8_readWeights 5 = .ok (.istore_n 2, 1) := by decide +kernel
theorem dX8_readWeights_6 : decode cX8_readWeights 6 = .ok (.iload_n 2, 1) := by decide +kernel
theorem dX8_readWeights_7 : decode cX8_readWeights 7 = .ok (.aload_n 0, 1) := by decide +kernel
theorem dX8_readWeights_8 : decode cX8_readWeights 8 = .ok (.iload_n 1, 1) := by decide +kernel
theorem dX8_readWeights_9 : decode cX8_readWeights 9 = .ok (.invokevirtual 105, 3) := by decide +kernel
theorem dX8_readWeights_12 : decode cX8_readWeights 12 = .ok (.if_icmp .ge 80, 3) := by decide +kernel
theorem dX8_readWeights_15 : decode cX8_readWeights 15 = .ok (.aload_n 0, 1) := by decide +kernel
theorem dX8_readWeights_16 : decode cX8_readWeights 16 = .ok (.getfield 51, 3) := by decide +kernel
theorem dX8_readWeights_19 : decode cX8_readWeights 19 = .ok (.ifCond .ne 73, 3) := by decide +kernel
theorem dX8_readWeights_22 : decode cX8_readWeights 22 = .ok (.aload_n 0, 1) := by decide +kernel
theorem dX8_readWeights_23 : decode cX8_readWeights 23 = .ok (.getfield 70, 3) := by decide +kernel
theorem dX8_readWeights_26 : decode cX8_readWeights 26 = .ok (.iconst 3, 1) := by decide +kernel
theorem dX8_readWeights_27 : decode cX8_readWeights 27 = .ok (.if_icmp .eq 11, 3) := by decide +kernel
theorem dX8_readWeights_30 : decode cX8_readWeights 30 = .ok (.aload_n 0, 1) := by decide +kernel
theorem dX8_readWeights_31 : decode cX8_readWeights 31 = .ok (.iconst 1, 1) := by decide +kernel
theorem dX8_readWeights_32 : decode cX8_readWeights 32 = .ok (.invokevirtual 133, 3) := by decide +kernel
theorem dX8_readWeights_35 : decode cX8_readWeights 35 = .ok (.goto 20, 3) := by decide +kernel
theorem dX8_readWeights_38 : decode cX8_readWeights 38 = .ok (.aload_n 0, 1) := by decide +kernel
theorem dX8_readWeights_39 : decode cX8_readWeights 39 = .ok (.invokevirtual 137, 3) := by decide +kernel
theorem dX8_readWeights_42 : decode cX8_readWeights 42 = .ok (.iconst 1, 1) := by decide +kernel
theorem dX8_readWeights_43 : decode cX8_readWeights 43 = .ok (.iconst 3, 1) := by decide +kernel
theorem dX8_readWeights_44 : decode cX8_readWeights 44 = .ok (.invokestatic 63, 3) := by decide +kernel
theorem dX8_readWeights_47 : decode cX8_readWeights 47 = .ok (.ifCond .ne 8, 3) := by decide +kernel
theorem dX8_readWeights_50 : decode cX8_readWeights 50 = .ok (.aload_n 0, 1) := by decide +kernel
theorem dX8_readWeights_51 : decode cX8_readWeights 51 = .ok (.iconst 2, 1) := by decide +kernel
theorem dX8_readWeights_52 : decode cX8_readWeights 52 = .ok (.invokevirtual 133, 3) := by decide +kernel
theorem dX8_readWeights_55 : decode cX8_readWeights 55 = .ok (.aload_n 0, 1) := by decide +kernel
theorem dX8_readWeights_56 : decode cX8_readWeights 56 = .ok (.getfield 51, 3) := by decide +kernel
theorem dX8_readWeights_59 : decode cX8_readWeights 59 = .ok (.ifCond .le 4, 3) := by decide +kernel
theorem dX8_readWeights_62 : decode cX8_readWeights 62 = .ok (.return_, 1) := by decide +kernel
theorem dX8_readWeights_63 : decode cX8_readWeights 63 = .ok (.aload_n 0, 1) := by decide +kernel
theorem dX8_readWeights_64 : decode cX8_readWeights 64 = .ok (.getfield 17, 3) := by decide +kernel
theorem dX8_readWeights_67 : decode cX8_readWeights 67 = .ok (.sipush 273, 3) := by decide +kernel
theorem dX8_readWeights_70 : decode cX8_readWeights 70 = .ok (.iload_n 1, 1) := by decide +kernel
theorem dX8_readWeights_71 : decode cX8_readWeights 71 = .ok (.imul, 1) := by decide +kernel
theorem dX8_readWeights_72 : decode cX8_readWeights 72 = .ok (.bipush 9, 2) := by decide +kernel
theorem dX8_readWeights_74 : decode cX8_readWeights 74 = .ok (.iadd, 1) := by decide +kernel
theorem dX8_readWeights_75 : decode cX8_readWeights 75 = .ok (.iload_n 2, 1) := by decide +kernel
theorem dX8_readWeights_76 : decode cX8_readWeights 76 = .ok (.iadd, 1) := by decide +kernel
theorem dX8_readWeights_77 : decode cX8_readWeights 77 = .ok (.aload_n 0, 1) := by decide +kernel
theorem dX8_readWeights_78 : decode cX8_readWeights 78 = .ok (.invokevirtual 137, 3) := by decide +kernel
theorem dX8_readWeights_81 : decode cX8_readWeights 81 = .ok (.iastore, 1) := by decide +kernel
theorem dX8_readWeights_82 : decode cX8_readWeights 82 = .ok (.aload_n 0, 1) := by decide +kernel
theorem dX8_readWeights_83 : decode cX8_readWeights 83 = .ok (.invokevirtual 144, 3) := by decide +kernel
theorem dX8_readWeights_86 : decode cX8_readWeights 86 = .ok (.iinc 2 1, 3) := by decide +kernel
theorem dX8_readWeights_89 : decode cX8_readWeights 89 = .ok (.goto (-83), 3) := by decide +kernel
theorem dX8_readWeights_92 : decode cX8_readWeights 92 = .ok (.return_, 1) := by decide +kernel
theorem dX8_readWord_0 : decode cX8_readWord 0 = .ok (.aload_n 0, 1) := by decide +kernel
theorem dX8_readWord_1 : decode cX8_readWord 1 = .ok (.getfield 70, 3) := by decide +kernel
theorem dX8_readWord_4 : decode cX8_readWord 4 = .ok (.iconst 3, 1) := by decide +kernel
theorem dX8_readWord_5 : decode cX8_readWord 5 = .ok (.if_icmp .eq 8, 3) := by decide +kernel
theorem dX8_readWord_8 : decode cX8_readWord 8 = .ok (.aload_n 0, 1) := by decide +kernel
theorem dX8_readWord_9 : decode cX8_readWord 9 = .ok (.iconst 1, 1) := by decide +kernel
theorem dX8_readWord_10 : decode cX8_readWord 10 = .ok (.invokevirtual 133, 3) := by decide +kernel
theorem dX8_readWord_13 : decode cX8_readWord 13 = .ok (.aload_n 0, 1) := by decide +kernel
theorem dX8_readWord_14 : decode cX8_readWord 14 = .ok (.getfield 51, 3) := by decide +kernel
theorem dX8_readWord_17 : decode cX8_readWord 17 = .ok (.ifCond .le 4, 3) := by decide +kernel
theorem dX8_readWord_20 : decode cX8_readWord 20 = .ok (.return_, 1) := by decide +kernel
theorem dX8_readWord_21 : decode cX8_readWord 21 = .ok (.aload_n 0, 1) := by decide +kernel
theorem dX8_readWord_22 : decode cX8_readWord 22 = .ok (.getfield 67, 3) := by decide +kernel
theorem dX8_readWord_25 : decode cX8_readWord 25 = .ok (.aload_n 0, 1) := by decide +kernel
theorem dX8_readWord_26 : decode cX8_readWord 26 = .ok (.getfield 54, 3) := by decide +kernel
theorem dX8_readWord_29 : decode cX8_readWord 29 = .ok (.isub, 1) := by decide +kernel
theorem dX8_readWord_30 : decode cX8_readWord 30 = .ok (.aload_n 0, 1) := by decide +kernel
theorem dX8_readWord_31 : decode cX8_readWord 31 = .ok (.iload_n 1, 1) := by decide +kernel
theorem dX8_readWord_32 : decode cX8_readWord 32 = .ok (.invokevirtual 105, 3) := by decide +kernel
theorem dX8_readWord_35 : decode cX8_readWord 35 = .ok (.if_icmp .ne 7, 3) := by decide +kernel
theorem dX8_readWord_38 : decode cX8_readWord 38 = .ok (.iconst 1, 1) := by decide +kernel
theorem dX8_readWord_39 : decode cX8_readWord 39 = .ok (.goto 4, 3) := by decide +kernel
theorem dX8_readWord_42 : decode cX8_readWord 42 = .ok (.iconst 0, 1) := by decide +kernel
theorem dX8_readWord_43 : decode cX8_readWord 43 = .ok (.istore_n 2, 1) := by decide +kernel
theorem dX8_readWord_44 : decode cX8_readWord 44 = .ok (.iconst 0, 1) := by decide +kernel
theorem dX8_readWord_45 : decode cX8_readWord 45 = .ok (.istore_n 3, 1) := by decide +kernel
theorem dX8_readWord_46 : decode cX8_readWord 46 = .ok (.iconst 0, 1) := by decide +kernel
theorem dX8_readWord_47 : decode cX8_readWord 47 = .ok (.istore 4, 2) := by decide +kernel
theorem dX8_readWord_49 : decode cX8_readWord 49 = .ok (.iload_n 2, 1) := by decide +kernel
theorem dX8_readWord_50 : decode cX8_readWord 50 = .ok (.ifCond .eq 67, 3) := by decide +kernel
theorem dX8_readWord_53 : decode cX8_readWord 53 = .ok (.iload 4, 2) := by decide +kernel
theorem dX8_readWord_55 : decode cX8_readWord 55 = .ok (.aload_n 0, 1) := by decide +kernel
theorem dX8_readWord_56 : decode cX8_readWord 56 = .ok (.iload_n 1, 1) := by decide +kernel
theorem dX8_readWord_57 : decode cX8_readWord 57 = .ok (.invokevirtual 105, 3) := by decide +kernel
theorem dX8_readWord_60 : decode cX8_readWord 60 = .ok (.if_icmp .ge 57, 3) := by decide +kernel
theorem dX8_readWord_63 : decode cX8_readWord 63 = .ok (.aload_n 0, 1) := by decide +kernel
theorem dX8_readWord_64 : decode cX8_readWord 64 = .ok (.getfield 13, 3) := by decide +kernel
theorem dX8_readWord_67 : decode cX8_readWord 67 = .ok (.aload_n 0, 1) := by decide +kernel
theorem dX8_readWord_68 : decode cX8_readWord 68 = .ok (.getfield 54, 3) := by decide +kernel
theorem dX8_readWord_71 : decode cX8_readWord 71 = .ok (.iload 4, 2) := by decide +kernel
theorem dX8_readWord_73 : decode cX8_readWord 73 = .ok (.iadd, 1) := by decide +kernel
theorem dX8_readWord_74 : decode cX8_readWord 74 = .ok (.iaload, 1) := by decide +kernel
theorem dX8_readWord_75 : decode cX8_readWord 75 = .ok (.bipush 48, 2) := by decide +kernel
theorem dX8_readWord_77 : decode cX8_readWord 77 = .ok (.isub, 1) := by decide +kernel
theorem dX8_readWord_78 : decode cX8_readWord 78 = .ok (.istore 5, 2) := by decide +kernel
theorem dX8_readWord_80 : decode cX8_readWord 80 = .ok (.iload 5, 2) := by decide +kernel
theorem dX8_readWord_82 : decode cX8_readWord 82 = .ok (.aload_n 0, 1) := by decide +kernel
theorem dX8_readWord_83 : decode cX8_readWord 83 = .ok (.iload_n 1, 1) := by decide +kernel
theorem dX8_readWord_84 : decode cX8_readWord 84 = .ok (.iload 4, 2) := by decide +kernel
theorem dX8_readWord_86 : decode cX8_readWord 86 = .ok (.invokevirtual 109, 3) := by decide +kernel
theorem dX8_readWord_89 : decode cX8_readWord 89 = .ok (.if_icmp .ge 7, 3) := by decide +kernel
theorem dX8_readWord_92 : decode cX8_readWord 92 = .ok (.iconst 1, 1) := by decide +kernel
theorem dX8_readWord_93 : decode cX8_readWord 93 = .ok (.goto 4, 3) := by decide +kernel
theorem dX8_readWord_96 : decode cX8_readWord 96 = .ok (.iconst 0, 1) := by decide +kernel
theorem dX8_readWord_97 : decode cX8_readWord 97 = .ok (.istore_n 2, 1) := by decide +kernel
theorem dX8_readWord_98 : decode cX8_readWord 98 = .ok (.iload_n 3, 1) := by decide +kernel
theorem dX8_readWord_99 : decode cX8_readWord 99 = .ok (.aload_n 0, 1) := by decide +kernel
theorem dX8_readWord_100 : decode cX8_readWord 100 = .ok (.iload_n 1, 1) := by decide +kernel
theorem dX8_readWord_101 : decode cX8_readWord 101 = .ok (.iload 4, 2) := by decide +kernel
theorem dX8_readWord_103 : decode cX8_readWord 103 = .ok (.invokevirtual 109, 3) := by decide +kernel
theorem dX8_readWord_106 : decode cX8_readWord 106 = .ok (.imul, 1) := by decide +kernel
theorem dX8_readWord_107 : decode cX8_readWord 107 = .ok (.iload 5, 2) := by decide +kernel
theorem dX8_readWord_109 : decode cX8_readWord 109 = .ok (.iadd, 1) := by decide +kernel
theorem dX8_readWord_110 : decode cX8_readWord 110 = .ok (.istore_n 3, 1) := by decide +kernel
theorem dX8_readWord_111 : decode cX8_readWord 111 = .ok (.iinc 4 1, 3) := by decide +kernel
theorem dX8_readWord_114 : decode cX8_readWord 114 = .ok (.goto (-65), 3) := by decide +kernel
theorem dX8_readWord_117 : decode cX8_readWord 117 = .ok (.iload_n 2, 1) := by decide +kernel
theorem dX8_readWord_118 : decode cX8_readWord 118 = .ok (.ifCond .ne 11, 3) := by decide +kernel
theorem dX8_readWord_121 : decode cX8_readWord 121 = .ok (.aload_n 0, 1) := by decide +kernel
theorem dX8_readWord_122 : decode cX8_readWord 122 = .ok (.iconst 2, 1) := by decide +kernel
theorem dX8_readWord_123 : decode cX8_readWord 123 = .ok (.invokevirtual 133, 3) := by decide +kernel
theorem dX8_readWord_126 : decode cX8_readWord 126 = .ok (.goto 17, 3) := by decide +kernel
theorem dX8_readWord_129 : decode cX8_readWord 129 = .ok (.aload_n 0, 1) := by decide +kernel
theorem dX8_readWord_130 : decode cX8_readWord 130 = .ok (.iload_n 1, 1) := by decide +kernel
theorem dX8_readWord_131 : decode cX8_readWord 131 = .ok (.iload_n 3, 1) := by decide +kernel
theorem dX8_readWord_132 : decode cX8_readWord 132 = .ok (.invokevirtual 116, 3) := by decide +kernel
theorem dX8_readWord_135 : decode cX8_readWord 135 = .ok (.ifCond .eq 8, 3) := by decide +kernel
theorem dX8_readWord_138 : decode cX8_readWord 138 = .ok (.aload_n 0, 1) := by decide +kernel
theorem dX8_readWord_139 : decode cX8_readWord 139 = .ok (.iconst 3, 1) := by decide +kernel
theorem dX8_readWord_140 : decode cX8_readWord 140 = .ok (.invokevirtual 133, 3) := by decide +kernel
theorem dX8_readWord_143 : decode cX8_readWord 143 = .ok (.aload_n 0, 1) := by decide +kernel
theorem dX8_readWord_144 : decode cX8_readWord 144 = .ok (.getfield 51, 3) := by decide +kernel
theorem dX8_readWord_147 : decode cX8_readWord 147 = .ok (.ifCond .ne 10, 3) := by decide +kernel
theorem dX8_readWord_150 : decode cX8_readWord 150 = .ok (.aload_n 0, 1) := by decide +kernel
theorem dX8_readWord_151 : decode cX8_readWord 151 = .ok (.iload_n 1, 1) := by decide +kernel
theorem dX8_readWord_152 : decode cX8_readWord 152 = .ok (.iload_n 3, 1) := by decide +kernel
theorem dX8_readWord_153 : decode cX8_readWord 153 = .ok (.iconst 1, 1) := by decide +kernel
theorem dX8_readWord_154 : decode cX8_readWord 154 = .ok (.invokevirtual 147, 3) := by decide +kernel
theorem dX8_readWord_157 : decode cX8_readWord 157 = .ok (.aload_n 0, 1) := by decide +kernel
theorem dX8_readWord_158 : decode cX8_readWord 158 = .ok (.invokevirtual 144, 3) := by decide +kernel
theorem dX8_readWord_161 : decode cX8_readWord 161 = .ok (.return_, 1) := by decide +kernel
theorem dX8_readCode_0 : decode cX8_readCode 0 = .ok (.bipush 8, 2) := by decide +kernel
theorem dX8_readCode_2 : decode cX8_readCode 2 = .ok (.aload_n 0, 1) := by decide +kernel
theorem dX8_readCode_3 : decode cX8_readCode 3 = .ok (.getfield 151, 3) := by decide +kernel
theorem dX8_readCode_6 : decode cX8_readCode 6 = .ok (.iadd, 1) := by decide +kernel
theorem dX8_readCode_7 : decode cX8_readCode 7 = .ok (.istore_n 1, 1) := by decide +kernel
theorem dX8_readCode_8 : decode cX8_readCode 8 = .ok (.aload_n 0, 1) := by decide +kernel
theorem dX8_readCode_9 : decode cX8_readCode 9 = .ok (.ldc 123, 2) := by decide +kernel
theorem dX8_readCode_11 : decode cX8_readCode 11 = .ok (.invokevirtual 125, 3) := by decide +kernel
theorem dX8_readCode_14 : decode cX8_readCode 14 = .ok (.ifCond .ne 11, 3) := by decide +kernel
theorem dX8_readCode_17 : decode cX8_readCode 17 = .ok (.aload_n 0, 1) := by decide +kernel
theorem dX8_readCode_18 : decode cX8_readCode 18 = .ok (.iconst 1, 1) := by decide +kernel
theorem dX8_readCode_19 : decode cX8_readCode 19 = .ok (.invokevirtual 133, 3) := by decide +kernel
theorem dX8_readCode_22 : decode cX8_readCode 22 = .ok (.goto 16, 3) := by decide +kernel
theorem dX8_readCode_25 : decode cX8_readCode 25 = .ok (.aload_n 0, 1) := by decide +kernel
theorem dX8_readCode_26 : decode cX8_readCode 26 = .ok (.getfield 151, 3) := by decide +kernel
theorem dX8_readCode_29 : decode cX8_readCode 29 = .ok (.iconst 4, 1) := by decide +kernel
theorem dX8_readCode_30 : decode cX8_readCode 30 = .ok (.if_icmp .ne 8, 3) := by decide +kernel
theorem dX8_readCode_33 : decode cX8_readCode 33 = .ok (.aload_n 0, 1) := by decide +kernel
theorem dX8_readCode_34 : decode cX8_readCode 34 = .ok (.iconst 4, 1) := by decide +kernel
theorem dX8_readCode_35 : decode cX8_readCode 35 = .ok (.invokevirtual 133, 3) := by decide +kernel
theorem dX8_readCode_38 : decode cX8_readCode 38 = .ok (.aload_n 0, 1) := by decide +kernel
theorem dX8_readCode_39 : decode cX8_readCode 39 = .ok (.invokevirtual 144, 3) := by decide +kernel
theorem dX8_readCode_42 : decode cX8_readCode 42 = .ok (.aload_n 0, 1) := by decide +kernel
theorem dX8_readCode_43 : decode cX8_readCode 43 = .ok (.getfield 51, 3) := by decide +kernel
theorem dX8_readCode_46 : decode cX8_readCode 46 = .ok (.ifCond .ne 23, 3) := by decide +kernel
theorem dX8_readCode_49 : decode cX8_readCode 49 = .ok (.aload_n 0, 1) := by decide +kernel
theorem dX8_readCode_50 : decode cX8_readCode 50 = .ok (.getfield 70, 3) := by decide +kernel
theorem dX8_readCode_53 : decode cX8_readCode 53 = .ok (.iconst 2, 1) := by decide +kernel
theorem dX8_readCode_54 : decode cX8_readCode 54 = .ok (.if_icmp .ne 10, 3) := by decide +kernel
theorem dX8_readCode_57 : decode cX8_readCode 57 = .ok (.aload_n 0, 1) := by decide +kernel
theorem dX8_readCode_58 : decode cX8_readCode 58 = .ok (.invokevirtual 154, 3) := by decide +kernel
theorem dX8_readCode_61 : decode cX8_readCode 61 = .ok (.ifCond .eq 8, 3) := by decide +kernel
theorem dX8_readCode_64 : decode cX8_readCode 64 = .ok (.aload_n 0, 1) := by decide +kernel
theorem dX8_readCode_65 : decode cX8_readCode 65 = .ok (.iconst 1, 1) := by decide +kernel
theorem dX8_readCode_66 : decode cX8_readCode 66 = .ok (.invokevirtual 133, 3) := by decide +kernel
theorem dX8_readCode_69 : decode cX8_readCode 69 = .ok (.iconst 0, 1) := by decide +kernel
theorem dX8_readCode_70 : decode cX8_readCode 70 = .ok (.istore_n 2, 1) := by decide +kernel
theorem dX8_readCode_71 : decode cX8_readCode 71 = .ok (.aload_n 0, 1) := by decide +kernel
theorem dX8_readCode_72 : decode cX8_readCode 72 = .ok (.getfield 51, 3) := by decide +kernel
theorem dX8_readCode_75 : decode cX8_readCode 75 = .ok (.ifCond .ne 36, 3) := by decide +kernel
theorem dX8_readCode_78 : decode cX8_readCode 78 = .ok (.iload_n 2, 1) := by decide +kernel
theorem dX8_readCode_79 : decode cX8_readCode 79 = .ok (.aload_n 0, 1) := by decide +kernel
theorem dX8_readCode_80 : decode cX8_readCode 80 = .ok (.getfield 151, 3) := by decide +kernel
theorem dX8_readCode_83 : decode cX8_readCode 83 = .ok (.if_icmp .ge 28, 3) := by decide +kernel
theorem dX8_readCode_86 : decode cX8_readCode 86 = .ok (.aload_n 0, 1) := by decide +kernel
theorem dX8_readCode_87 : decode cX8_readCode 87 = .ok (.getfield 27, 3) := by decide +kernel
theorem dX8_readCode_90 : decode cX8_readCode 90 = .ok (.iload_n 2, 1) := by decide +kernel
theorem dX8_readCode_91 : decode cX8_readCode 91 = .ok (.laload, 1) := by decide +kernel
theorem dX8_readCode_92 : decode cX8_readCode 92 = .ok (.aload_n 0, 1) := by decide +kernel
theorem dX8_readCode_93 : decode cX8_readCode 93 = .ok (.getfield 77, 3) := by decide +kernel
theorem dX8_readCode_96 : decode cX8_readCode 96 = .ok (.lcmp, 1) := by decide +kernel
theorem dX8_readCode_97 : decode cX8_readCode 97 = .ok (.ifCond .ne 8, 3) := by decide +kernel
theorem dX8_readCode_100 : decode cX8_readCode 100 = .ok (.aload_n 0, 1) := by decide +kernel
theorem dX8_readCode_101 : decode cX8_readCode 101 = .ok (.iconst 3, 1) := by decide +kernel
theorem dX8_readCode_102 : decode cX8_readCode 102 = .ok (.invokevirtual 133, 3) := by decide +kernel
theorem dX8_readCode_105 : decode cX8_readCode 105 = .ok (.iinc 2 1, 3) := by decide +kernel
theorem dX8_readCode_108 : decode cX8_readCode 108 = .ok (.goto (-37), 3) := by decide +kernel
theorem dX8_readCode_111 : decode cX8_readCode 111 = .ok (.aload_n 0, 1) := by decide +kernel
theorem dX8_readCode_112 : decode cX8_readCode 112 = .ok (.getfield 51, 3) := by decide +kernel
theorem dX8_readCode_115 : decode cX8_readCode 115 = .ok (.ifCond .le 4, 3) := by decide +kernel
theorem dX8_readCode_118 : decode cX8_readCode 118 = .ok (.return_, 1) := by decide +kernel
theorem dX8_readCode_119 : decode cX8_readCode 119 = .ok (.aload_n 0, 1) := by decide +kernel
theorem dX8_readCode_120 : decode cX8_readCode 120 = .ok (.getfield 27, 3) := by decide +kernel
theorem dX8_readCode_123 : decode cX8_readCode 123 = .ok (.aload_n 0, 1) := by decide +kernel
theorem dX8_readCode_124 : decode cX8_readCode 124 = .ok (.getfield 151, 3) := by decide +kernel
theorem dX8_readCode_127 : decode cX8_readCode 127 = .ok (.aload_n 0, 1) := by decide +kernel
theorem dX8_readCode_128 : decode cX8_readCode 128 = .ok (.getfield 77, 3) := by decide +kernel
theorem dX8_readCode_131 : decode cX8_readCode 131 = .ok (.lastore, 1) := by decide +kernel
theorem dX8_readCode_132 : decode cX8_readCode 132 = .ok (.aload_n 0, 1) := by decide +kernel
theorem dX8_readCode_133 : decode cX8_readCode 133 = .ok (.iload_n 1, 1) := by decide +kernel
theorem dX8_readCode_134 : decode cX8_readCode 134 = .ok (.invokevirtual 158, 3) := by decide +kernel
theorem dX8_readCode_137 : decode cX8_readCode 137 = .ok (.aload_n 0, 1) := by decide +kernel
theorem dX8_readCode_138 : decode cX8_readCode 138 = .ok (.invokevirtual 144, 3) := by decide +kernel
theorem dX8_readCode_141 : decode cX8_readCode 141 = .ok (.aload_n 0, 1) := by decide +kernel
theorem dX8_readCode_142 : decode cX8_readCode 142 = .ok (.ldc 129, 2) := by decide +kernel
theorem dX8_readCode_144 : decode cX8_readCode 144 = .ok (.invokevirtual 125, 3) := by decide +kernel
theorem dX8_readCode_147 : decode cX8_readCode 147 = .ok (.ifCond .ne 8, 3) := by decide +kernel
theorem dX8_readCode_150 : decode cX8_readCode 150 = .ok (.aload_n 0, 1) := by decide +kernel
theorem dX8_readCode_151 : decode cX8_readCode 151 = .ok (.iconst 1, 1) := by decide +kernel
theorem dX8_readCode_152 : decode cX8_readCode 152 = .ok (.invokevirtual 133, 3) := by decide +kernel
theorem dX8_readCode_155 : decode cX8_readCode 155 = .ok (.aload_n 0, 1) := by decide +kernel
theorem dX8_readCode_156 : decode cX8_readCode 156 = .ok (.invokevirtual 144, 3) := by decide +kernel
theorem dX8_readCode_159 : decode cX8_readCode 159 = .ok (.aload_n 0, 1) := by decide +kernel
theorem dX8_readCode_160 : decode cX8_readCode 160 = .ok (.getfield 51, 3) := by decide +kernel
theorem dX8_readCode_163 : decode cX8_readCode 163 = .ok (.ifCond .le 4, 3) := by decide +kernel
theorem dX8_readCode_166 : decode cX8_readCode 166 = .ok (.return_, 1) := by decide +kernel
theorem dX8_readCode_167 : decode cX8_readCode 167 = .ok (.aload_n 0, 1) := by decide +kernel
theorem dX8_readCode_168 : decode cX8_readCode 168 = .ok (.iload_n 1, 1) := by decide +kernel
theorem dX8_readCode_169 : decode cX8_readCode 169 = .ok (.invokevirtual 161, 3) := by decide +kernel
theorem dX8_readCode_172 : decode cX8_readCode 172 = .ok (.aload_n 0, 1) := by decide +kernel
theorem dX8_readCode_173 : decode cX8_readCode 173 = .ok (.ldc 131, 2) := by decide +kernel
theorem dX8_readCode_175 : decode cX8_readCode 175 = .ok (.invokevirtual 125, 3) := by decide +kernel
theorem dX8_readCode_178 : decode cX8_readCode 178 = .ok (.ifCond .eq 8, 3) := by decide +kernel
theorem dX8_readCode_181 : decode cX8_readCode 181 = .ok (.aload_n 0, 1) := by decide +kernel
theorem dX8_readCode_182 : decode cX8_readCode 182 = .ok (.iload_n 1, 1) := by decide +kernel
theorem dX8_readCode_183 : decode cX8_readCode 183 = .ok (.invokevirtual 164, 3) := by decide +kernel
theorem dX8_readCode_186 : decode cX8_readCode 186 = .ok (.aload_n 0, 1) := by decide +kernel
theorem dX8_readCode_187 : decode cX8_readCode 187 = .ok (.bipush 58, 2) := by decide +kernel
theorem dX8_readCode_189 : decode cX8_readCode 189 = .ok (.invokevirtual 167, 3) := by decide +kernel
theorem dX8_readCode_192 : decode cX8_readCode 192 = .ok (.ifCond .ne 8, 3) := by decide +kernel
theorem dX8_readCode_195 : decode cX8_readCode 195 = .ok (.aload_n 0, 1) := by decide +kernel
theorem dX8_readCode_196 : decode cX8_readCode 196 = .ok (.iconst 1, 1) := by decide +kernel
theorem dX8_readCode_197 : decode cX8_readCode 197 = .ok (.invokevirtual 133, 3) := by decide +kernel
theorem dX8_readCode_200 : decode cX8_readCode 200 = .ok (.aload_n 0, 1) := by decide +kernel
theorem dX8_readCode_201 : decode cX8_readCode 201 = .ok (.invokevirtual 144, 3) := by decide +kernel
theorem dX8_readCode_204 : decode cX8_readCode 204 = .ok (.aload_n 0, 1) := by decide +kernel
theorem dX8_readCode_205 : decode cX8_readCode 205 = .ok (.getfield 51, 3) := by decide +kernel
theorem dX8_readCode_208 : decode cX8_readCode 208 = .ok (.ifCond .le 4, 3) := by decide +kernel
theorem dX8_readCode_211 : decode cX8_readCode 211 = .ok (.return_, 1) := by decide +kernel
theorem dX8_readCode_212 : decode cX8_readCode 212 = .ok (.aload_n 0, 1) := by decide +kernel
theorem dX8_readCode_213 : decode cX8_readCode 213 = .ok (.iload_n 1, 1) := by decide +kernel
theorem dX8_readCode_214 : decode cX8_readCode 214 = .ok (.invokevirtual 170, 3) := by decide +kernel
theorem dX8_readCode_217 : decode cX8_readCode 217 = .ok (.aload_n 0, 1) := by decide +kernel
theorem dX8_readCode_218 : decode cX8_readCode 218 = .ok (.bipush 44, 2) := by decide +kernel
theorem dX8_readCode_220 : decode cX8_readCode 220 = .ok (.invokevirtual 167, 3) := by decide +kernel
theorem dX8_readCode_223 : decode cX8_readCode 223 = .ok (.ifCond .eq 15, 3) := by decide +kernel
theorem dX8_readCode_226 : decode cX8_readCode 226 = .ok (.aload_n 0, 1) := by decide +kernel
theorem dX8_readCode_227 : decode cX8_readCode 227 = .ok (.invokevirtual 144, 3) := by decide +kernel
theorem dX8_readCode_230 : decode cX8_readCode 230 = .ok (.aload_n 0, 1) := by decide +kernel
theorem dX8_readCode_231 : decode cX8_readCode 231 = .ok (.iload_n 1, 1) := by decide +kernel
theorem dX8_readCode_232 : decode cX8_readCode 232 = .ok (.invokevirtual 170, 3) := by decide +kernel
theorem dX8_readCode_235 : decode cX8_readCode 235 = .ok (.goto (-18), 3) := by decide +kernel
theorem dX8_readCode_238 : decode cX8_readCode 238 = .ok (.aload_n 0, 1) := by decide +kernel
theorem dX8_readCode_239 : decode cX8_readCode 239 = .ok (.getfield 51, 3) := by decide +kernel
theorem dX8_readCode_242 : decode cX8_readCode 242 = .ok (.ifCond .ne 13, 3) := by decide +kernel
theorem dX8_readCode_245 : decode cX8_readCode 245 = .ok (.aload_n 0, 1) := by decide +kernel
theorem dX8_readCode_246 : decode cX8_readCode 246 = .ok (.dup, 1) := by decide +kernel
theorem dX8_readCode_247 : decode cX8_readCode 247 = .ok (.getfield 151, 3) := by decide +kernel
theorem dX8_readCode_250 : decode cX8_readCode 250 = .ok (.iconst 1, 1) := by decide +kernel
theorem dX8_readCode_251 : decode cX8_readCode 251 = .ok (.iadd, 1) := by decide +kernel
theorem dX8_readCode_252 : decode cX8_readCode 252 = .ok (.putfield 151, 3) := by decide +kernel
theorem dX8_readCode_255 : decode cX8_readCode 255 = .ok (.return_, 1) := by decide +kernel
theorem dX8_text_0 : decode cX8_text 0 = .ok (.aload_n 0, 1) := by decide +kernel
theorem dX8_text_1 : decode cX8_text 1 = .ok (.iconst 0, 1) := by decide +kernel
theorem dX8_text_2 : decode cX8_text 2 = .ok (.putfield 42, 3) := by decide +kernel
theorem dX8_text_5 : decode cX8_text 5 = .ok (.iload_n 1, 1) := by decide +kernel
theorem dX8_text_6 : decode cX8_text 6 = .ok (.iconst 0, 1) := by decide +kernel
theorem dX8_text_7 : decode cX8_text 7 = .ok (.aload_n 0, 1) := by decide +kernel
theorem dX8_text_8 : decode cX8_text 8 = .ok (.getfield 48, 3) := by decide +kernel
theorem dX8_text_11 : decode cX8_text 11 = .ok (.invokestatic 63, 3) := by decide +kernel
theorem dX8_text_14 : decode cX8_text 14 = .ok (.ifCond .ne 9, 3) := by decide +kernel
theorem dX8_text_17 : decode cX8_text 17 = .ok (.aload_n 0, 1) := by decide +kernel
theorem dX8_text_18 : decode cX8_text 18 = .ok (.iconst 2, 1) := by decide +kernel
theorem dX8_text_19 : decode cX8_text 19 = .ok (.invokevirtual 173, 3) := by decide +kernel
theorem dX8_text_22 : decode cX8_text 22 = .ok (.ireturn, 1) := by decide +kernel
theorem dX8_text_23 : decode cX8_text 23 = .ok (.aload_n 0, 1) := by decide +kernel
theorem dX8_text_24 : decode cX8_text 24 = .ok (.iload_n 1, 1) := by decide +kernel
theorem dX8_text_25 : decode cX8_text 25 = .ok (.putfield 60, 3) := by decide +kernel
theorem dX8_text_28 : decode cX8_text 28 = .ok (.aload_n 0, 1) := by decide +kernel
theorem dX8_text_29 : decode cX8_text 29 = .ok (.iconst 0, 1) := by decide +kernel
theorem dX8_text_30 : decode cX8_text 30 = .ok (.putfield 48, 3) := by decide +kernel
theorem dX8_text_33 : decode cX8_text 33 = .ok (.aload_n 0, 1) := by decide +kernel
theorem dX8_text_34 : decode cX8_text 34 = .ok (.iconst 0, 1) := by decide +kernel
theorem dX8_text_35 : decode cX8_text 35 = .ok (.putfield 67, 3) := by decide +kernel
theorem dX8_text_38 : decode cX8_text 38 = .ok (.aload_n 0, 1) := by decide +kernel
theorem dX8_text_39 : decode cX8_text 39 = .ok (.iconst 0, 1) := by decide +kernel
theorem dX8_text_40 : decode cX8_text 40 = .ok (.putfield 51, 3) := by decide +kernel
theorem dX8_text_43 : decode cX8_text 43 = .ok (.aload_n 0, 1) := by decide +kernel
theorem dX8_text_44 : decode cX8_text 44 = .ok (.iconst 0, 1) := by decide +kernel
theorem dX8_text_45 : decode cX8_text 45 = .ok (.putfield 151, 3) := by decide +kernel
theorem dX8_text_48 : decode cX8_text 48 = .ok (.aload_n 0, 1) := by decide +kernel
theorem dX8_text_49 : decode cX8_text 49 = .ok (.invokevirtual 144, 3) := by decide +kernel
theorem dX8_text_52 : decode cX8_text 52 = .ok (.aload_n 0, 1) := by decide +kernel
theorem dX8_text_53 : decode cX8_text 53 = .ok (.invokevirtual 176, 3) := by decide +kernel
theorem dX8_text_56 : decode cX8_text 56 = .ok (.aload_n 0, 1) := by decide +kernel
theorem dX8_text_57 : decode cX8_text 57 = .ok (.bipush 59, 2) := by decide +kernel
theorem dX8_text_59 : decode cX8_text 59 = .ok (.invokevirtual 167, 3) := by decide +kernel
theorem dX8_text_62 : decode cX8_text 62 = .ok (.ifCond .eq 14, 3) := by decide +kernel
theorem dX8_text_65 : decode cX8_text 65 = .ok (.aload_n 0, 1) := by decide +kernel
theorem dX8_text_66 : decode cX8_text 66 = .ok (.invokevirtual 144, 3) := by decide +kernel
theorem dX8_text_69 : decode cX8_text 69 = .ok (.aload_n 0, 1) := by decide +kernel
theorem dX8_text_70 : decode cX8_text 70 = .ok (.invokevirtual 176, 3) := by decide +kernel
theorem dX8_text_73 : decode cX8_text 73 = .ok (.goto (-17), 3) := by decide +kernel
theorem dX8_text_76 : decode cX8_text 76 = .ok (.aload_n 0, 1) := by decide +kernel
theorem dX8_text_77 : decode cX8_text 77 = .ok (.getfield 51, 3) := by decide +kernel
theorem dX8_text_80 : decode cX8_text 80 = .ok (.ifCond .ne 16, 3) := by decide +kernel
theorem dX8_text_83 : decode cX8_text 83 = .ok (.aload_n 0, 1) := by decide +kernel
theorem dX8_text_84 : decode cX8_text 84 = .ok (.getfield 70, 3) := by decide +kernel
theorem dX8_text_87 : decode cX8_text 87 = .ok (.iconst 1, 1) := by decide +kernel
theorem dX8_text_88 : decode cX8_text 88 = .ok (.if_icmp .eq 8, 3) := by decide +kernel
theorem dX8_text_91 : decode cX8_text 91 = .ok (.aload_n 0, 1) := by decide +kernel
theorem dX8_text_92 : decode cX8_text 92 = .ok (.iconst 1, 1) := by decide +kernel
theorem dX8_text_93 : decode cX8_text 93 = .ok (.invokevirtual 133, 3) := by decide +kernel
theorem dX8_text_96 : decode cX8_text 96 = .ok (.aload_n 0, 1) := by decide +kernel
theorem dX8_text_97 : decode cX8_text 97 = .ok (.getfield 51, 3) := by decide +kernel
theorem dX8_text_100 : decode cX8_text 100 = .ok (.ifCond .le 18, 3) := by decide +kernel
theorem dX8_text_103 : decode cX8_text 103 = .ok (.aload_n 0, 1) := by decide +kernel
theorem dX8_text_104 : decode cX8_text 104 = .ok (.iconst 4, 1) := by decide +kernel
theorem dX8_text_105 : decode cX8_text 105 = .ok (.putfield 45, 3) := by decide +kernel
theorem dX8_text_108 : decode cX8_text 108 = .ok (.aload_n 0, 1) := by decide +kernel
theorem dX8_text_109 : decode cX8_text 109 = .ok (.aload_n 0, 1) := by decide +kernel
theorem dX8_text_110 : decode cX8_text 110 = .ok (.getfield 57, 3) := by decide +kernel
theorem dX8_text_113 : decode cX8_text 113 = .ok (.putfield 9, 3) := by decide +kernel
theorem dX8_text_116 : decode cX8_text 116 = .ok (.iconst (-1), 1) := by decide +kernel
theorem dX8_text_117 : decode cX8_text 117 = .ok (.ireturn, 1) := by decide +kernel
theorem dX8_text_118 : decode cX8_text 118 = .ok (.iconst 0, 1) := by decide +kernel
theorem dX8_text_119 : decode cX8_text 119 = .ok (.istore_n 2, 1) := by decide +kernel
theorem dX8_text_120 : decode cX8_text 120 = .ok (.iload_n 2, 1) := by decide +kernel
theorem dX8_text_121 : decode cX8_text 121 = .ok (.bipush 8, 2) := by decide +kernel
theorem dX8_text_123 : decode cX8_text 123 = .ok (.if_icmp .ge 14, 3) := by decide +kernel
theorem dX8_text_126 : decode cX8_text 126 = .ok (.aload_n 0, 1) := by decide +kernel
theorem dX8_text_127 : decode cX8_text 127 = .ok (.iload_n 2, 1) := by decide +kernel
theorem dX8_text_128 : decode cX8_text 128 = .ok (.invokevirtual 158, 3) := by decide +kernel
theorem dX8_text_131 : decode cX8_text 131 = .ok (.iinc 2 1, 3) := by decide +kernel
theorem dX8_text_134 : decode cX8_text 134 = .ok (.goto (-14), 3) := by decide +kernel
theorem dX8_text_137 : decode cX8_text 137 = .ok (.iconst 0, 1) := by decide +kernel
theorem dX8_text_138 : decode cX8_text 138 = .ok (.istore_n 2, 1) := by decide +kernel
theorem dX8_text_139 : decode cX8_text 139 = .ok (.iload_n 2, 1) := by decide +kernel
theorem dX8_text_140 : decode cX8_text 140 = .ok (.aload_n 0, 1) := by decide +kernel
theorem dX8_text_141 : decode cX8_text 141 = .ok (.getfield 151, 3) := by decide +kernel
theorem dX8_text_144 : decode cX8_text 144 = .ok (.if_icmp .ge 30, 3) := by decide +kernel
theorem dX8_text_147 : decode cX8_text 147 = .ok (.aload_n 0, 1) := by decide +kernel
theorem dX8_text_148 : decode cX8_text 148 = .ok (.bipush 8, 2) := by decide +kernel
theorem dX8_text_150 : decode cX8_text 150 = .ok (.iload_n 2, 1) := by decide +kernel
theorem dX8_text_151 : decode cX8_text 151 = .ok (.iadd, 1) := by decide +kernel
theorem dX8_text_152 : decode cX8_text 152 = .ok (.iload_n 2, 1) := by decide +kernel
theorem dX8_text_153 : decode cX8_text 153 = .ok (.invokevirtual 179, 3) := by decide +kernel
theorem dX8_text_156 : decode cX8_text 156 = .ok (.aload_n 0, 1) := by decide +kernel
theorem dX8_text_157 : decode cX8_text 157 = .ok (.getfield 23, 3) := by decide +kernel
theorem dX8_text_160 : decode cX8_text 160 = .ok (.iload_n 2, 1) := by decide +kernel
theorem dX8_text_161 : decode cX8_text 161 = .ok (.aload_n 0, 1) := by decide +kernel
theorem dX8_text_162 : decode cX8_text 162 = .ok (.getfield 27, 3) := by decide +kernel
theorem dX8_text_165 : decode cX8_text 165 = .ok (.iload_n 2, 1) := by decide +kernel
theorem dX8_text_166 : decode cX8_text 166 = .ok (.laload, 1) := by decide +kernel
theorem dX8_text_167 : decode cX8_text 167 = .ok (.lastore, 1) := by decide +kernel
theorem dX8_text_168 : decode cX8_text 168 = .ok (.iinc 2 1, 3) := by decide +kernel
theorem dX8_text_171 : decode cX8_text 171 = .ok (.goto (-32), 3) := by decide +kernel
theorem dX8_text_174 : decode cX8_text 174 = .ok (.aload_n 0, 1) := by decide +kernel
theorem dX8_text_175 : decode cX8_text 175 = .ok (.aload_n 0, 1) := by decide +kernel
theorem dX8_text_176 : decode cX8_text 176 = .ok (.getfield 151, 3) := by decide +kernel
theorem dX8_text_179 : decode cX8_text 179 = .ok (.putfield 183, 3) := by decide +kernel
theorem dX8_text_182 : decode cX8_text 182 = .ok (.aload_n 0, 1) := by decide +kernel
theorem dX8_text_183 : decode cX8_text 183 = .ok (.iconst 0, 1) := by decide +kernel
theorem dX8_text_184 : decode cX8_text 184 = .ok (.putfield 186, 3) := by decide +kernel
theorem dX8_text_187 : decode cX8_text 187 = .ok (.aload_n 0, 1) := by decide +kernel
theorem dX8_text_188 : decode cX8_text 188 = .ok (.aload_n 0, 1) := by decide +kernel
theorem dX8_text_189 : decode cX8_text 189 = .ok (.getfield 151, 3) := by decide +kernel
theorem dX8_text_192 : decode cX8_text 192 = .ok (.invokevirtual 189, 3) := by decide +kernel
theorem dX8_text_195 : decode cX8_text 195 = .ok (.ireturn, 1) := by decide +kernel
theorem dX8_isCode_0 : decode cX8_isCode 0 = .ok (.iload_n 1, 1) := by decide +kernel
theorem dX8_isCode_1 : decode cX8_isCode 1 = .ok (.iconst 0, 1) := by decide +kernel
theorem dX8_isCode_2 : decode cX8_isCode 2 = .ok (.bipush 7, 2) := by decide +kernel
theorem dX8_isCode_4 : decode cX8_isCode 4 = .ok (.invokestatic 63, 3) := by decide +kernel
theorem dX8_isCode_7 : decode cX8_isCode 7 = .ok (.ifCond .eq 15, 3) := by decide +kernel
theorem dX8_isCode_10 : decode cX8_isCode 10 = .ok (.aload_n 0, 1) := by decide +kernel
theorem dX8_isCode_11 : decode cX8_isCode 11 = .ok (.iload_n 1, 1) := by decide +kernel
theorem dX8_isCode_12 : decode cX8_isCode 12 = .ok (.invokevirtual 105, 3) := by decide +kernel
theorem dX8_isCode_15 : decode cX8_isCode 15 = .ok (.ifCond .le 7, 3) := by decide +kernel
theorem dX8_isCode_18 : decode cX8_isCode 18 = .ok (.iconst 1, 1) := by decide +kernel
theorem dX8_isCode_19 : decode cX8_isCode 19 = .ok (.goto 4, 3) := by decide +kernel
theorem dX8_isCode_22 : decode cX8_isCode 22 = .ok (.iconst 0, 1) := by decide +kernel
theorem dX8_isCode_23 : decode cX8_isCode 23 = .ok (.ireturn, 1) := by decide +kernel
theorem dX8_isPlace_0 : decode cX8_isPlace 0 = .ok (.aload_n 0, 1) := by decide +kernel
theorem dX8_isPlace_1 : decode cX8_isPlace 1 = .ok (.iload_n 1, 1) := by decide +kernel
theorem dX8_isPlace_2 : decode cX8_isPlace 2 = .ok (.invokevirtual 192, 3) := by decide +kernel
theorem dX8_isPlace_5 : decode cX8_isPlace 5 = .ok (.ifCond .eq 22, 3) := by decide +kernel
theorem dX8_isPlace_8 : decode cX8_isPlace 8 = .ok (.iload_n 2, 1) := by decide +kernel
theorem dX8_isPlace_9 : decode cX8_isPlace 9 = .ok (.iconst 0, 1) := by decide +kernel
theorem dX8_isPlace_10 : decode cX8_isPlace 10 = .ok (.aload_n 0, 1) := by decide +kernel
theorem dX8_isPlace_11 : decode cX8_isPlace 11 = .ok (.iload_n 1, 1) := by decide +kernel
theorem dX8_isPlace_12 : decode cX8_isPlace 12 = .ok (.invokevirtual 105, 3) := by decide +kernel
theorem dX8_isPlace_15 : decode cX8_isPlace 15 = .ok (.iconst 1, 1) := by decide +kernel
theorem dX8_isPlace_16 : decode cX8_isPlace 16 = .ok (.isub, 1) := by decide +kernel
theorem dX8_isPlace_17 : decode cX8_isPlace 17 = .ok (.invokestatic 63, 3) := by decide +kernel
theorem dX8_isPlace_20 : decode cX8_isPlace 20 = .ok (.ifCond .eq 7, 3) := by decide +kernel
theorem dX8_isPlace_23 : decode cX8_isPlace 23 = .ok (.iconst 1, 1) := by decide +kernel
theorem dX8_isPlace_24 : decode cX8_isPlace 24 = .ok (.goto 4, 3) := by decide +kernel
theorem dX8_isPlace_27 : decode cX8_isPlace 27 = .ok (.iconst 0, 1) := by decide +kernel
theorem dX8_isPlace_28 : decode cX8_isPlace 28 = .ok (.ireturn, 1) := by decide +kernel
theorem dX8_isWordOf_0 : decode cX8_isWordOf 0 = .ok (.aload_n 0, 1) := by decide +kernel
theorem dX8_isWordOf_1 : decode cX8_isWordOf 1 = .ok (.iload_n 1, 1) := by decide +kernel
theorem dX8_isWordOf_2 : decode cX8_isWordOf 2 = .ok (.invokevirtual 192, 3) := by decide +kernel
theorem dX8_isWordOf_5 : decode cX8_isWordOf 5 = .ok (.ifCond .eq 22, 3) := by decide +kernel
theorem dX8_isWordOf_8 : decode cX8_isWordOf 8 = .ok (.iload_n 2, 1) := by decide +kernel
theorem dX8_isWordOf_9 : decode cX8_isWordOf 9 = .ok (.iconst 0, 1) := by decide +kernel
theorem dX8_isWordOf_10 : decode cX8_isWordOf 10 = .ok (.aload_n 0, 1) := by decide +kernel
theorem dX8_isWordOf_11 : decode cX8_isWordOf 11 = .ok (.iload_n 1, 1) := by decide +kernel
theorem dX8_isWordOf_12 : decode cX8_isWordOf 12 = .ok (.invokevirtual 113, 3) := by decide +kernel
theorem dX8_isWordOf_15 : decode cX8_isWordOf 15 = .ok (.iconst 1, 1) := by decide +kernel
theorem dX8_isWordOf_16 : decode cX8_isWordOf 16 = .ok (.isub, 1) := by decide +kernel
theorem dX8_isWordOf_17 : decode cX8_isWordOf 17 = .ok (.invokestatic 63, 3) := by decide +kernel
theorem dX8_isWordOf_20 : decode cX8_isWordOf 20 = .ok (.ifCond .eq 7, 3) := by decide +kernel
theorem dX8_isWordOf_23 : decode cX8_isWordOf 23 = .ok (.iconst 1, 1) := by decide +kernel
theorem dX8_isWordOf_24 : decode cX8_isWordOf 24 = .ok (.goto 4, 3) := by decide +kernel
theorem dX8_isWordOf_27 : decode cX8_isWordOf 27 = .ok (.iconst 0, 1) := by decide +kernel
theorem dX8_isWordOf_28 : decode cX8_isWordOf 28 = .ok (.ireturn, 1) := by decide +kernel
theorem dX8_isSlips_0 : decode cX8_isSlips 0 = .ok (.iload_n 0, 1) := by decide +kernel
theorem dX8_isSlips_1 : decode cX8_isSlips 1 = .ok (.iconst 0, 1) := by decide +kernel
theorem dX8_isSlips_2 : decode cX8_isSlips 2 = .ok (.bipush 24, 2) := by decide +kernel
theorem dX8_isSlips_4 : decode cX8_isSlips 4 = .ok (.invokestatic 63, 3) := by decide +kernel
theorem dX8_isSlips_7 : decode cX8_isSlips 7 = .ok (.ireturn, 1) := by decide +kernel
theorem dX8_covers_0 : decode cX8_covers 0 = .ok (.iconst 0, 1) := by decide +kernel
theorem dX8_covers_1 : decode cX8_covers 1 = .ok (.istore_n 3, 1) := by decide +kernel
theorem dX8_covers_2 : decode cX8_covers 2 = .ok (.iconst 0, 1) := by decide +kernel
theorem dX8_covers_3 : decode cX8_covers 3 = .ok (.istore 4, 2) := by decide +kernel
theorem dX8_covers_5 : decode cX8_covers 5 = .ok (.iload 4, 2) := by decide +kernel
theorem dX8_covers_7 : decode cX8_covers 7 = .ok (.aload_n 0, 1) := by decide +kernel
theorem dX8_covers_8 : decode cX8_covers 8 = .ok (.iload_n 1, 1) := by decide +kernel
theorem dX8_covers_9 : decode cX8_covers 9 = .ok (.invokevirtual 113, 3) := by decide +kernel
theorem dX8_covers_12 : decode cX8_covers 12 = .ok (.if_icmp .ge 92, 3) := by decide +kernel
theorem dX8_covers_15 : decode cX8_covers 15 = .ok (.aload_n 0, 1) := by decide +kernel
theorem dX8_covers_16 : decode cX8_covers 16 = .ok (.getfield 30, 3) := by decide +kernel
theorem dX8_covers_19 : decode cX8_covers 19 = .ok (.iload 4, 2) := by decide +kernel
theorem dX8_covers_21 : decode cX8_covers 21 = .ok (.iconst 0, 1) := by decide +kernel
theorem dX8_covers_22 : decode cX8_covers 22 = .ok (.iastore, 1) := by decide +kernel
theorem dX8_covers_23 : decode cX8_covers 23 = .ok (.iconst 0, 1) := by decide +kernel
theorem dX8_covers_24 : decode cX8_covers 24 = .ok (.istore 5, 2) := by decide +kernel
theorem dX8_covers_26 : decode cX8_covers 26 = .ok (.iload 5, 2) := by decide +kernel
theorem dX8_covers_28 : decode cX8_covers 28 = .ok (.aload_n 0, 1) := by decide +kernel
theorem dX8_covers_29 : decode cX8_covers 29 = .ok (.iload_n 1, 1) := by decide +kernel
theorem dX8_covers_30 : decode cX8_covers 30 = .ok (.invokevirtual 113, 3) := by decide +kernel
theorem dX8_covers_33 : decode cX8_covers 33 = .ok (.if_icmp .ge 47, 3) := by decide +kernel
theorem dX8_covers_36 : decode cX8_covers 36 = .ok (.aload_n 0, 1) := by decide +kernel
theorem dX8_covers_37 : decode cX8_covers 37 = .ok (.getfield 30, 3) := by decide +kernel
theorem dX8_covers_40 : decode cX8_covers 40 = .ok (.iload 4, 2) := by decide +kernel
theorem dX8_covers_42 : decode cX8_covers 42 = .ok (.dup2, 1) := by decide +kernel
theorem dX8_covers_43 : decode cX8_covers 43 = .ok (.iaload, 1) := by decide +kernel
theorem dX8_covers_44 : decode cX8_covers 44 = .ok (.aload_n 0, 1) := by decide +kernel
theorem dX8_covers_45 : decode cX8_covers 45 = .ok (.iload_n 1, 1) := by decide +kernel
theorem dX8_covers_46 : decode cX8_covers 46 = .ok (.iload 5, 2) := by decide +kernel
theorem dX8_covers_48 : decode cX8_covers 48 = .ok (.invokevirtual 116, 3) := by decide +kernel
theorem dX8_covers_51 : decode cX8_covers 51 = .ok (.ifCond .eq 20, 3) := by decide +kernel
theorem dX8_covers_54 : decode cX8_covers 54 = .ok (.aload_n 0, 1) := by decide +kernel
theorem dX8_covers_55 : decode cX8_covers 55 = .ok (.iload_n 1, 1) := by decide +kernel
theorem dX8_covers_56 : decode cX8_covers 56 = .ok (.iload 4, 2) := by decide +kernel
theorem dX8_covers_58 : decode cX8_covers 58 = .ok (.iload 5, 2) := by decide +kernel
theorem dX8_covers_60 : decode cX8_covers 60 = .ok (.invokevirtual 195, 3) := by decide +kernel
theorem dX8_covers_63 : decode cX8_covers 63 = .ok (.iload_n 2, 1) := by decide +kernel
theorem dX8_covers_64 : decode cX8_covers 64 = .ok (.if_icmp .gt 7, 3) := by decide +kernel
theorem dX8_covers_67 : decode cX8_covers 67 = .ok (.iconst 1, 1) := by decide +kernel
theorem dX8_covers_68 : decode cX8_covers 68 = .ok (.goto 4, 3) := by decide +kernel
theorem dX8_covers_71 : decode cX8_covers 71 = .ok (.iconst 0, 1) := by decide +kernel
theorem dX8_covers_72 : decode cX8_covers 72 = .ok (.iadd, 1) := by decide +kernel
theorem dX8_covers_73 : decode cX8_covers 73 = .ok (.iastore, 1) := by decide +kernel
theorem dX8_covers_74 : decode cX8_covers 74 = .ok (.iinc 5 1, 3) := by decide +kernel
theorem dX8_covers_77 : decode cX8_covers 77 = .ok (.goto (-51), 3) := by decide +kernel
theorem dX8_covers_80 : decode cX8_covers 80 = .ok (.iload_n 3, 1) := by decide +kernel
theorem dX8_covers_81 : decode cX8_covers 81 = .ok (.aload_n 0, 1) := by decide +kernel
theorem dX8_covers_82 : decode cX8_covers 82 = .ok (.getfield 30, 3) := by decide +kernel
theorem dX8_covers_85 : decode cX8_covers 85 = .ok (.iload 4, 2) := by decide +kernel
theorem dX8_covers_87 : decode cX8_covers 87 = .ok (.iaload, 1) := by decide +kernel
theorem dX8_covers_88 : decode cX8_covers 88 = .ok (.ifCond .ne 7, 3) := by decide +kernel
theorem dX8_covers_91 : decode cX8_covers 91 = .ok (.iconst 1, 1) := by decide +kernel
theorem dX8_covers_92 : decode cX8_covers 92 = .ok (.goto 4, 3) := by decide +kernel
theorem dX8_covers_95 : decode cX8_covers 95 = .ok (.iconst 0, 1) := by decide +kernel
theorem dX8_covers_96 : decode cX8_covers 96 = .ok (.iadd, 1) := by decide +kernel
theorem dX8_covers_97 : decode cX8_covers 97 = .ok (.istore_n 3, 1) := by decide +kernel
theorem dX8_covers_98 : decode cX8_covers 98 = .ok (.iinc 4 1, 3) := by decide +kernel
theorem dX8_covers_101 : decode cX8_covers 101 = .ok (.goto (-96), 3) := by decide +kernel
theorem dX8_covers_104 : decode cX8_covers 104 = .ok (.iload_n 3, 1) := by decide +kernel
theorem dX8_covers_105 : decode cX8_covers 105 = .ok (.ireturn, 1) := by decide +kernel
theorem dX8_radius_0 : decode cX8_radius 0 = .ok (.aload_n 0, 1) := by decide +kernel
theorem dX8_radius_1 : decode cX8_radius 1 = .ok (.iload_n 1, 1) := by decide +kernel
theorem dX8_radius_2 : decode cX8_radius 2 = .ok (.invokevirtual 199, 3) := by decide +kernel
theorem dX8_radius_5 : decode cX8_radius 5 = .ok (.ifCond .ne 6, 3) := by decide +kernel
theorem dX8_radius_8 : decode cX8_radius 8 = .ok (.bipush (-2), 2) := by decide +kernel
theorem dX8_radius_10 : decode cX8_radius 10 = .ok (.ireturn, 1) := by decide +kernel
theorem dX8_radius_11 : decode cX8_radius 11 = .ok (.iconst 0, 1) := by decide +kernel
theorem dX8_radius_12 : decode cX8_radius 12 = .ok (.istore_n 2, 1) := by decide +kernel
theorem dX8_radius_13 : decode cX8_radius 13 = .ok (.aload_n 0, 1) := by decide +kernel
theorem dX8_radius_14 : decode cX8_radius 14 = .ok (.iload_n 1, 1) := by decide +kernel
theorem dX8_radius_15 : decode cX8_radius 15 = .ok (.iload_n 2, 1) := by decide +kernel
theorem dX8_radius_16 : decode cX8_radius 16 = .ok (.invokevirtual 202, 3) := by decide +kernel
theorem dX8_radius_19 : decode cX8_radius 19 = .ok (.ifCond .le 9, 3) := by decide +kernel
theorem dX8_radius_22 : decode cX8_radius 22 = .ok (.iinc 2 1, 3) := by decide +kernel
theorem dX8_radius_25 : decode cX8_radius 25 = .ok (.goto (-12), 3) := by decide +kernel
theorem dX8_radius_28 : decode cX8_radius 28 = .ok (.iload_n 2, 1) := by decide +kernel
theorem dX8_radius_29 : decode cX8_radius 29 = .ok (.ireturn, 1) := by decide +kernel
theorem dX8_apart_0 : decode cX8_apart 0 = .ok (.bipush (-2), 2) := by decide +kernel
theorem dX8_apart_2 : decode cX8_apart 2 = .ok (.istore_n 2, 1) := by decide +kernel
theorem dX8_apart_3 : decode cX8_apart 3 = .ok (.iconst 0, 1) := by decide +kernel
theorem dX8_apart_4 : decode cX8_apart 4 = .ok (.istore_n 3, 1) := by decide +kernel
theorem dX8_apart_5 : decode cX8_apart 5 = .ok (.iload_n 3, 1) := by decide +kernel
theorem dX8_apart_6 : decode cX8_apart 6 = .ok (.aload_n 0, 1) := by decide +kernel
theorem dX8_apart_7 : decode cX8_apart 7 = .ok (.iload_n 1, 1) := by decide +kernel
theorem dX8_apart_8 : decode cX8_apart 8 = .ok (.invokevirtual 113, 3) := by decide +kernel
theorem dX8_apart_11 : decode cX8_apart 11 = .ok (.if_icmp .ge 75, 3) := by decide +kernel
theorem dX8_apart_14 : decode cX8_apart 14 = .ok (.iconst 0, 1) := by decide +kernel
theorem dX8_apart_15 : decode cX8_apart 15 = .ok (.istore 4, 2) := by decide +kernel
theorem dX8_apart_17 : decode cX8_apart 17 = .ok (.iload 4, 2) := by decide +kernel
theorem dX8_apart_19 : decode cX8_apart 19 = .ok (.iload_n 3, 1) := by decide +kernel
theorem dX8_apart_20 : decode cX8_apart 20 = .ok (.if_icmp .ge 60, 3) := by decide +kernel
theorem dX8_apart_23 : decode cX8_apart 23 = .ok (.aload_n 0, 1) := by decide +kernel
theorem dX8_apart_24 : decode cX8_apart 24 = .ok (.iload_n 1, 1) := by decide +kernel
theorem dX8_apart_25 : decode cX8_apart 25 = .ok (.iload_n 3, 1) := by decide +kernel
theorem dX8_apart_26 : decode cX8_apart 26 = .ok (.invokevirtual 116, 3) := by decide +kernel
theorem dX8_apart_29 : decode cX8_apart 29 = .ok (.ifCond .eq 45, 3) := by decide +kernel
theorem dX8_apart_32 : decode cX8_apart 32 = .ok (.aload_n 0, 1) := by decide +kernel
theorem dX8_apart_33 : decode cX8_apart 33 = .ok (.iload_n 1, 1) := by decide +kernel
theorem dX8_apart_34 : decode cX8_apart 34 = .ok (.iload 4, 2) := by decide +kernel
theorem dX8_apart_36 : decode cX8_apart 36 = .ok (.invokevirtual 116, 3) := by decide +kernel
theorem dX8_apart_39 : decode cX8_apart 39 = .ok (.ifCond .ne 6, 3) := by decide +kernel
theorem dX8_apart_42 : decode cX8_apart 42 = .ok (.goto 32, 3) := by decide +kernel
theorem dX8_apart_45 : decode cX8_apart 45 = .ok (.aload_n 0, 1) := by decide +kernel
theorem dX8_apart_46 : decode cX8_apart 46 = .ok (.iload_n 1, 1) := by decide +kernel
theorem dX8_apart_47 : decode cX8_apart 47 = .ok (.iload_n 3, 1) := by decide +kernel
theorem dX8_apart_48 : decode cX8_apart 48 = .ok (.iload 4, 2) := by decide +kernel
theorem dX8_apart_50 : decode cX8_apart 50 = .ok (.invokevirtual 195, 3) := by decide +kernel
theorem dX8_apart_53 : decode cX8_apart 53 = .ok (.istore 5, 2) := by decide +kernel
theorem dX8_apart_55 : decode cX8_apart 55 = .ok (.iload_n 2, 1) := by decide +kernel
theorem dX8_apart_56 : decode cX8_apart 56 = .ok (.bipush (-2), 2) := by decide +kernel
theorem dX8_apart_58 : decode cX8_apart 58 = .ok (.if_icmp .eq 9, 3) := by decide +kernel
theorem dX8_apart_61 : decode cX8_apart 61 = .ok (.iload 5, 2) := by decide +kernel
theorem dX8_apart_63 : decode cX8_apart 63 = .ok (.iload_n 2, 1) := by decide +kernel
theorem dX8_apart_64 : decode cX8_apart 64 = .ok (.if_icmp .ge 8, 3) := by decide +kernel
theorem dX8_apart_67 : decode cX8_apart 67 = .ok (.iload 5, 2) := by decide +kernel
theorem dX8_apart_69 : decode cX8_apart 69 = .ok (.goto 4, 3) := by decide +kernel
theorem dX8_apart_72 : decode cX8_apart 72 = .ok (.iload_n 2, 1) := by decide +kernel
theorem dX8_apart_73 : decode cX8_apart 73 = .ok (.istore_n 2, 1) := by decide +kernel
theorem dX8_apart_74 : decode cX8_apart 74 = .ok (.iinc 4 1, 3) := by decide +kernel
theorem dX8_apart_77 : decode cX8_apart 77 = .ok (.goto (-60), 3) := by decide +kernel
theorem dX8_apart_80 : decode cX8_apart 80 = .ok (.iinc 3 1, 3) := by decide +kernel
theorem dX8_apart_83 : decode cX8_apart 83 = .ok (.goto (-78), 3) := by decide +kernel
theorem dX8_apart_86 : decode cX8_apart 86 = .ok (.iload_n 2, 1) := by decide +kernel
theorem dX8_apart_87 : decode cX8_apart 87 = .ok (.ireturn, 1) := by decide +kernel
theorem dX8_weights_0 : decode cX8_weights 0 = .ok (.iconst 0, 1) := by decide +kernel
theorem dX8_weights_1 : decode cX8_weights 1 = .ok (.istore_n 2, 1) := by decide +kernel
theorem dX8_weights_2 : decode cX8_weights 2 = .ok (.iconst 0, 1) := by decide +kernel
theorem dX8_weights_3 : decode cX8_weights 3 = .ok (.istore_n 3, 1) := by decide +kernel
theorem dX8_weights_4 : decode cX8_weights 4 = .ok (.iload_n 3, 1) := by decide +kernel
theorem dX8_weights_5 : decode cX8_weights 5 = .ok (.aload_n 0, 1) := by decide +kernel
theorem dX8_weights_6 : decode cX8_weights 6 = .ok (.iload_n 1, 1) := by decide +kernel
theorem dX8_weights_7 : decode cX8_weights 7 = .ok (.invokevirtual 105, 3) := by decide +kernel
theorem dX8_weights_10 : decode cX8_weights 10 = .ok (.if_icmp .ge 18, 3) := by decide +kernel
theorem dX8_weights_13 : decode cX8_weights 13 = .ok (.iload_n 2, 1) := by decide +kernel
theorem dX8_weights_14 : decode cX8_weights 14 = .ok (.aload_n 0, 1) := by decide +kernel
theorem dX8_weights_15 : decode cX8_weights 15 = .ok (.iload_n 1, 1) := by decide +kernel
theorem dX8_weights_16 : decode cX8_weights 16 = .ok (.iload_n 3, 1) := by decide +kernel
theorem dX8_weights_17 : decode cX8_weights 17 = .ok (.invokevirtual 120, 3) := by decide +kernel
theorem dX8_weights_20 : decode cX8_weights 20 = .ok (.iadd, 1) := by decide +kernel
theorem dX8_weights_21 : decode cX8_weights 21 = .ok (.istore_n 2, 1) := by decide +kernel
theorem dX8_weights_22 : decode cX8_weights 22 = .ok (.iinc 3 1, 3) := by decide +kernel
theorem dX8_weights_25 : decode cX8_weights 25 = .ok (.goto (-21), 3) := by decide +kernel
theorem dX8_weights_28 : decode cX8_weights 28 = .ok (.iload_n 2, 1) := by decide +kernel
theorem dX8_weights_29 : decode cX8_weights 29 = .ok (.ireturn, 1) := by decide +kernel
theorem dX8_about_0 : decode cX8_about 0 = .ok (.aload_n 0, 1) := by decide +kernel
theorem dX8_about_1 : decode cX8_about 1 = .ok (.iconst 0, 1) := by decide +kernel
theorem dX8_about_2 : decode cX8_about 2 = .ok (.putfield 42, 3) := by decide +kernel
theorem dX8_about_5 : decode cX8_about 5 = .ok (.aload_n 0, 1) := by decide +kernel
theorem dX8_about_6 : decode cX8_about 6 = .ok (.iload_n 1, 1) := by decide +kernel
theorem dX8_about_7 : decode cX8_about 7 = .ok (.invokevirtual 192, 3) := by decide +kernel
theorem dX8_about_10 : decode cX8_about 10 = .ok (.ifCond .ne 9, 3) := by decide +kernel
theorem dX8_about_13 : decode cX8_about 13 = .ok (.aload_n 0, 1) := by decide +kernel
theorem dX8_about_14 : decode cX8_about 14 = .ok (.iconst 1, 1) := by decide +kernel
theorem dX8_about_15 : decode cX8_about 15 = .ok (.invokevirtual 173, 3) := by decide +kernel
theorem dX8_about_18 : decode cX8_about 18 = .ok (.ireturn, 1) := by decide +kernel
theorem dX8_about_19 : decode cX8_about 19 = .ok (.iload_n 2, 1) := by decide +kernel
theorem dX8_about_20 : decode cX8_about 20 = .ok (.tableswitch 100 0 5 #[40, 50, 60, 70, 80, 90], 40) := by decide +kernel
theorem dX8_about_60 : decode cX8_about 60 = .ok (.aload_n 0, 1) := by decide +kernel
theorem dX8_about_61 : decode cX8_about 61 = .ok (.aload_n 0, 1) := by decide +kernel
theorem dX8_about_62 : decode cX8_about 62 = .ok (.iload_n 1, 1) := by decide +kernel
theorem dX8_about_63 : decode cX8_about 63 = .ok (.invokevirtual 105, 3) := by decide +kernel
theorem dX8_about_66 : decode cX8_about 66 = .ok (.invokevirtual 189, 3) := by decide +kernel
theorem dX8_about_69 : decode cX8_about 69 = .ok (.ireturn, 1) := by decide +kernel
theorem dX8_about_70 : decode cX8_about 70 = .ok (.aload_n 0, 1) := by decide +kernel
theorem dX8_about_71 : decode cX8_about 71 = .ok (.aload_n 0, 1) := by decide +kernel
theorem dX8_about_72 : decode cX8_about 72 = .ok (.iload_n 1, 1) := by decide +kernel
theorem dX8_about_73 : decode cX8_about 73 = .ok (.invokevirtual 113, 3) := by decide +kernel
theorem dX8_about_76 : decode cX8_about 76 = .ok (.invokevirtual 189, 3) := by decide +kernel
theorem dX8_about_79 : decode cX8_about 79 = .ok (.ireturn, 1) := by decide +kernel
theorem dX8_about_80 : decode cX8_about 80 = .ok (.aload_n 0, 1) := by decide +kernel
theorem dX8_about_81 : decode cX8_about 81 = .ok (.aload_n 0, 1) := by decide +kernel
theorem dX8_about_82 : decode cX8_about 82 = .ok (.iload_n 1, 1) := by decide +kernel
theorem dX8_about_83 : decode cX8_about 83 = .ok (.invokevirtual 199, 3) := by decide +kernel
theorem dX8_about_86 : decode cX8_about 86 = .ok (.invokevirtual 189, 3) := by decide +kernel
theorem dX8_about_89 : decode cX8_about 89 = .ok (.ireturn, 1) := by decide +kernel
theorem dX8_about_90 : decode cX8_about 90 = .ok (.aload_n 0, 1) := by decide +kernel
theorem dX8_about_91 : decode cX8_about 91 = .ok (.aload_n 0, 1) := by decide +kernel
theorem dX8_about_92 : decode cX8_about 92 = .ok (.iload_n 1, 1) := by decide +kernel
theorem dX8_about_93 : decode cX8_about 93 = .ok (.invokevirtual 205, 3) := by decide +kernel
theorem dX8_about_96 : decode cX8_about 96 = .ok (.invokevirtual 189, 3) := by decide +kernel
theorem dX8_about_99 : decode cX8_about 99 = .ok (.ireturn, 1) := by decide +kernel
theorem dX8_about_100 : decode cX8_about 100 = .ok (.aload_n 0, 1) := by decide +kernel
theorem dX8_about_101 : decode cX8_about 101 = .ok (.aload_n 0, 1) := by decide +kernel
theorem dX8_about_102 : decode cX8_about 102 = .ok (.iload_n 1, 1) := by decide +kernel
theorem dX8_about_103 : decode cX8_about 103 = .ok (.invokevirtual 208, 3) := by decide +kernel
theorem dX8_about_106 : decode cX8_about 106 = .ok (.invokevirtual 189, 3) := by decide +kernel
theorem dX8_about_109 : decode cX8_about 109 = .ok (.ireturn, 1) := by decide +kernel
theorem dX8_about_110 : decode cX8_about 110 = .ok (.aload_n 0, 1) := by decide +kernel
theorem dX8_about_111 : decode cX8_about 111 = .ok (.aload_n 0, 1) := by decide +kernel
theorem dX8_about_112 : decode cX8_about 112 = .ok (.iload_n 1, 1) := by decide +kernel
theorem dX8_about_113 : decode cX8_about 113 = .ok (.invokevirtual 211, 3) := by decide +kernel
theorem dX8_about_116 : decode cX8_about 116 = .ok (.invokevirtual 189, 3) := by decide +kernel
theorem dX8_about_119 : decode cX8_about 119 = .ok (.ireturn, 1) := by decide +kernel
theorem dX8_about_120 : decode cX8_about 120 = .ok (.aload_n 0, 1) := by decide +kernel
theorem dX8_about_121 : decode cX8_about 121 = .ok (.iconst 1, 1) := by decide +kernel
theorem dX8_about_122 : decode cX8_about 122 = .ok (.invokevirtual 173, 3) := by decide +kernel
theorem dX8_about_125 : decode cX8_about 125 = .ok (.ireturn, 1) := by decide +kernel
theorem dX8_place_0 : decode cX8_place 0 = .ok (.aload_n 0, 1) := by decide +kernel
theorem dX8_place_1 : decode cX8_place 1 = .ok (.iconst 0, 1) := by decide +kernel
theorem dX8_place_2 : decode cX8_place 2 = .ok (.putfield 42, 3) := by decide +kernel
theorem dX8_place_5 : decode cX8_place 5 = .ok (.aload_n 0, 1) := by decide +kernel
theorem dX8_place_6 : decode cX8_place 6 = .ok (.iload_n 1, 1) := by decide +kernel
theorem dX8_place_7 : decode cX8_place 7 = .ok (.iload_n 2, 1) := by decide +kernel
theorem dX8_place_8 : decode cX8_place 8 = .ok (.invokevirtual 214, 3) := by decide +kernel
theorem dX8_place_11 : decode cX8_place 11 = .ok (.ifCond .eq 12, 3) := by decide +kernel
theorem dX8_place_14 : decode cX8_place 14 = .ok (.iload_n 3, 1) := by decide +kernel
theorem dX8_place_15 : decode cX8_place 15 = .ok (.iconst 0, 1) := by decide +kernel
theorem dX8_place_16 : decode cX8_place 16 = .ok (.iconst 1, 1) := by decide +kernel
theorem dX8_place_17 : decode cX8_place 17 = .ok (.invokestatic 63, 3) := by decide +kernel
theorem dX8_place_20 : decode cX8_place 20 = .ok (.ifCond .ne 9, 3) := by decide +kernel
theorem dX8_place_23 : decode cX8_place 23 = .ok (.aload_n 0, 1) := by decide +kernel
theorem dX8_place_24 : decode cX8_place 24 = .ok (.iconst 1, 1) := by decide +kernel
theorem dX8_place_25 : decode cX8_place 25 = .ok (.invokevirtual 173, 3) := by decide +kernel
theorem dX8_place_28 : decode cX8_place 28 = .ok (.ireturn, 1) := by decide +kernel
theorem dX8_place_29 : decode cX8_place 29 = .ok (.aload_n 0, 1) := by decide +kernel
theorem dX8_place_30 : decode cX8_place 30 = .ok (.iload_n 3, 1) := by decide +kernel
theorem dX8_place_31 : decode cX8_place 31 = .ok (.ifCond .ne 12, 3) := by decide +kernel
theorem dX8_place_34 : decode cX8_place 34 = .ok (.aload_n 0, 1) := by decide +kernel
theorem dX8_place_35 : decode cX8_place 35 = .ok (.iload_n 1, 1) := by decide +kernel
theorem dX8_place_36 : decode cX8_place 36 = .ok (.iload_n 2, 1) := by decide +kernel
theorem dX8_place_37 : decode cX8_place 37 = .ok (.invokevirtual 109, 3) := by decide +kernel
theorem dX8_place_40 : decode cX8_place 40 = .ok (.goto 9, 3) := by decide +kernel
theorem dX8_place_43 : decode cX8_place 43 = .ok (.aload_n 0, 1) := by decide +kernel
theorem dX8_place_44 : decode cX8_place 44 = .ok (.iload_n 1, 1) := by decide +kernel
theorem dX8_place_45 : decode cX8_place 45 = .ok (.iload_n 2, 1) := by decide +kernel
theorem dX8_place_46 : decode cX8_place 46 = .ok (.invokevirtual 120, 3) := by decide +kernel
theorem dX8_place_49 : decode cX8_place 49 = .ok (.invokevirtual 189, 3) := by decide +kernel
theorem dX8_place_52 : decode cX8_place 52 = .ok (.ireturn, 1) := by decide +kernel
theorem dX8_word_0 : decode cX8_word 0 = .ok (.aload_n 0, 1) := by decide +kernel
theorem dX8_word_1 : decode cX8_word 1 = .ok (.iconst 0, 1) := by decide +kernel
theorem dX8_word_2 : decode cX8_word 2 = .ok (.putfield 42, 3) := by decide +kernel
theorem dX8_word_5 : decode cX8_word 5 = .ok (.aload_n 0, 1) := by decide +kernel
theorem dX8_word_6 : decode cX8_word 6 = .ok (.iload_n 1, 1) := by decide +kernel
theorem dX8_word_7 : decode cX8_word 7 = .ok (.invokevirtual 192, 3) := by decide +kernel
theorem dX8_word_10 : decode cX8_word 10 = .ok (.ifCond .eq 7, 3) := by decide +kernel
theorem dX8_word_13 : decode cX8_word 13 = .ok (.iload_n 2, 1) := by decide +kernel
theorem dX8_word_14 : decode cX8_word 14 = .ok (.ifCond .ge 9, 3) := by decide +kernel
theorem dX8_word_17 : decode cX8_word 17 = .ok (.aload_n 0, 1) := by decide +kernel
theorem dX8_word_18 : decode cX8_word 18 = .ok (.iconst 1, 1) := by decide +kernel
theorem dX8_word_19 : decode cX8_word 19 = .ok (.invokevirtual 173, 3) := by decide +kernel
theorem dX8_word_22 : decode cX8_word 22 = .ok (.ireturn, 1) := by decide +kernel
theorem dX8_word_23 : decode cX8_word 23 = .ok (.iload_n 2, 1) := by decide +kernel
theorem dX8_word_24 : decode cX8_word 24 = .ok (.istore_n 3, 1) := by decide +kernel
theorem dX8_word_25 : decode cX8_word 25 = .ok (.iconst 0, 1) := by decide +kernel
theorem dX8_word_26 : decode cX8_word 26 = .ok (.istore 4, 2) := by decide +kernel
theorem dX8_word_28 : decode cX8_word 28 = .ok (.iload 4, 2) := by decide +kernel
theorem dX8_word_30 : decode cX8_word 30 = .ok (.aload_n 0, 1) := by decide +kernel
theorem dX8_word_31 : decode cX8_word 31 = .ok (.iload_n 1, 1) := by decide +kernel
theorem dX8_word_32 : decode cX8_word 32 = .ok (.invokevirtual 113, 3) := by decide +kernel
theorem dX8_word_35 : decode cX8_word 35 = .ok (.if_icmp .ge 36, 3) := by decide +kernel
theorem dX8_word_38 : decode cX8_word 38 = .ok (.aload_n 0, 1) := by decide +kernel
theorem dX8_word_39 : decode cX8_word 39 = .ok (.iload_n 1, 1) := by decide +kernel
theorem dX8_word_40 : decode cX8_word 40 = .ok (.iload 4, 2) := by decide +kernel
theorem dX8_word_42 : decode cX8_word 42 = .ok (.invokevirtual 116, 3) := by decide +kernel
theorem dX8_word_45 : decode cX8_word 45 = .ok (.ifCond .ne 6, 3) := by decide +kernel
theorem dX8_word_48 : decode cX8_word 48 = .ok (.goto 17, 3) := by decide +kernel
theorem dX8_word_51 : decode cX8_word 51 = .ok (.iload_n 3, 1) := by decide +kernel
theorem dX8_word_52 : decode cX8_word 52 = .ok (.ifCond .ne 10, 3) := by decide +kernel
theorem dX8_word_55 : decode cX8_word 55 = .ok (.aload_n 0, 1) := by decide +kernel
theorem dX8_word_56 : decode cX8_word 56 = .ok (.iload 4, 2) := by decide +kernel
theorem dX8_word_58 : decode cX8_word 58 = .ok (.invokevirtual 189, 3) := by decide +kernel
theorem dX8_word_61 : decode cX8_word 61 = .ok (.ireturn, 1) := by decide +kernel
theorem dX8_word_62 : decode cX8_word 62 = .ok (.iinc 3 (-1), 3) := by decide +kernel
theorem dX8_word_65 : decode cX8_word 65 = .ok (.iinc 4 1, 3) := by decide +kernel
theorem dX8_word_68 : decode cX8_word 68 = .ok (.goto (-40), 3) := by decide +kernel
theorem dX8_word_71 : decode cX8_word 71 = .ok (.aload_n 0, 1) := by decide +kernel
theorem dX8_word_72 : decode cX8_word 72 = .ok (.bipush (-2), 2) := by decide +kernel
theorem dX8_word_74 : decode cX8_word 74 = .ok (.invokevirtual 189, 3) := by decide +kernel
theorem dX8_word_77 : decode cX8_word 77 = .ok (.ireturn, 1) := by decide +kernel
theorem dX8_has_0 : decode cX8_has 0 = .ok (.aload_n 0, 1) := by decide +kernel
theorem dX8_has_1 : decode cX8_has 1 = .ok (.iconst 0, 1) := by decide +kernel
theorem dX8_has_2 : decode cX8_has 2 = .ok (.putfield 42, 3) := by decide +kernel
theorem dX8_has_5 : decode cX8_has 5 = .ok (.aload_n 0, 1) := by decide +kernel
theorem dX8_has_6 : decode cX8_has 6 = .ok (.iload_n 1, 1) := by decide +kernel
theorem dX8_has_7 : decode cX8_has 7 = .ok (.iload_n 2, 1) := by decide +kernel
theorem dX8_has_8 : decode cX8_has 8 = .ok (.invokevirtual 217, 3) := by decide +kernel
theorem dX8_has_11 : decode cX8_has 11 = .ok (.ifCond .eq 24, 3) := by decide +kernel
theorem dX8_has_14 : decode cX8_has 14 = .ok (.aload_n 0, 1) := by decide +kernel
theorem dX8_has_15 : decode cX8_has 15 = .ok (.aload_n 0, 1) := by decide +kernel
theorem dX8_has_16 : decode cX8_has 16 = .ok (.iload_n 1, 1) := by decide +kernel
theorem dX8_has_17 : decode cX8_has 17 = .ok (.iload_n 2, 1) := by decide +kernel
theorem dX8_has_18 : decode cX8_has 18 = .ok (.invokevirtual 116, 3) := by decide +kernel
theorem dX8_has_21 : decode cX8_has 21 = .ok (.ifCond .eq 7, 3) := by decide +kernel
theorem dX8_has_24 : decode cX8_has 24 = .ok (.iconst 1, 1) := by decide +kernel
theorem dX8_has_25 : decode cX8_has 25 = .ok (.goto 4, 3) := by decide +kernel
theorem dX8_has_28 : decode cX8_has 28 = .ok (.iconst 0, 1) := by decide +kernel
theorem dX8_has_29 : decode cX8_has 29 = .ok (.invokevirtual 189, 3) := by decide +kernel
theorem dX8_has_32 : decode cX8_has 32 = .ok (.goto 8, 3) := by decide +kernel
theorem dX8_has_35 : decode cX8_has 35 = .ok (.aload_n 0, 1) := by decide +kernel
theorem dX8_has_36 : decode cX8_has 36 = .ok (.iconst 1, 1) := by decide +kernel
theorem dX8_has_37 : decode cX8_has 37 = .ok (.invokevirtual 173, 3) := by decide +kernel
theorem dX8_has_40 : decode cX8_has 40 = .ok (.ireturn, 1) := by decide +kernel
theorem dX8_digit_0 : decode cX8_digit 0 = .ok (.aload_n 0, 1) := by decide +kernel
theorem dX8_digit_1 : decode cX8_digit 1 = .ok (.iconst 0, 1) := by decide +kernel
theorem dX8_digit_2 : decode cX8_digit 2 = .ok (.putfield 42, 3) := by decide +kernel
theorem dX8_digit_5 : decode cX8_digit 5 = .ok (.aload_n 0, 1) := by decide +kernel
theorem dX8_digit_6 : decode cX8_digit 6 = .ok (.iload_n 1, 1) := by decide +kernel
theorem dX8_digit_7 : decode cX8_digit 7 = .ok (.iload_n 2, 1) := by decide +kernel
theorem dX8_digit_8 : decode cX8_digit 8 = .ok (.invokevirtual 217, 3) := by decide +kernel
theorem dX8_digit_11 : decode cX8_digit 11 = .ok (.ifCond .eq 26, 3) := by decide +kernel
theorem dX8_digit_14 : decode cX8_digit 14 = .ok (.aload_n 0, 1) := by decide +kernel
theorem dX8_digit_15 : decode cX8_digit 15 = .ok (.iload_n 1, 1) := by decide +kernel
theorem dX8_digit_16 : decode cX8_digit 16 = .ok (.iload_n 3, 1) := by decide +kernel
theorem dX8_digit_17 : decode cX8_digit 17 = .ok (.invokevirtual 214, 3) := by decide +kernel
theorem dX8_digit_20 : decode cX8_digit 20 = .ok (.ifCond .eq 17, 3) := by decide +kernel
theorem dX8_digit_23 : decode cX8_digit 23 = .ok (.aload_n 0, 1) := by decide +kernel
theorem dX8_digit_24 : decode cX8_digit 24 = .ok (.aload_n 0, 1) := by decide +kernel
theorem dX8_digit_25 : decode cX8_digit 25 = .ok (.iload_n 1, 1) := by decide +kernel
theorem dX8_digit_26 : decode cX8_digit 26 = .ok (.iload_n 2, 1) := by decide +kernel
theorem dX8_digit_27 : decode cX8_digit 27 = .ok (.iload_n 3, 1) := by decide +kernel
theorem dX8_digit_28 : decode cX8_digit 28 = .ok (.invokevirtual 220, 3) := by decide +kernel
theorem dX8_digit_31 : decode cX8_digit 31 = .ok (.invokevirtual 189, 3) := by decide +kernel
theorem dX8_digit_34 : decode cX8_digit 34 = .ok (.goto 8, 3) := by decide +kernel
theorem dX8_digit_37 : decode cX8_digit 37 = .ok (.aload_n 0, 1) := by decide +kernel
theorem dX8_digit_38 : decode cX8_digit 38 = .ok (.iconst 1, 1) := by decide +kernel
theorem dX8_digit_39 : decode cX8_digit 39 = .ok (.invokevirtual 173, 3) := by decide +kernel
theorem dX8_digit_42 : decode cX8_digit 42 = .ok (.ireturn, 1) := by decide +kernel
theorem dX8_far_0 : decode cX8_far 0 = .ok (.aload_n 0, 1) := by decide +kernel
theorem dX8_far_1 : decode cX8_far 1 = .ok (.iconst 0, 1) := by decide +kernel
theorem dX8_far_2 : decode cX8_far 2 = .ok (.putfield 42, 3) := by decide +kernel
theorem dX8_far_5 : decode cX8_far 5 = .ok (.aload_n 0, 1) := by decide +kernel
theorem dX8_far_6 : decode cX8_far 6 = .ok (.iload_n 1, 1) := by decide +kernel
theorem dX8_far_7 : decode cX8_far 7 = .ok (.iload_n 2, 1) := by decide +kernel
theorem dX8_far_8 : decode cX8_far 8 = .ok (.invokevirtual 217, 3) := by decide +kernel
theorem dX8_far_11 : decode cX8_far 11 = .ok (.ifCond .eq 26, 3) := by decide +kernel
theorem dX8_far_14 : decode cX8_far 14 = .ok (.aload_n 0, 1) := by decide +kernel
theorem dX8_far_15 : decode cX8_far 15 = .ok (.iload_n 1, 1) := by decide +kernel
theorem dX8_far_16 : decode cX8_far 16 = .ok (.iload_n 3, 1) := by decide +kernel
theorem dX8_far_17 : decode cX8_far 17 = .ok (.invokevirtual 217, 3) := by decide +kernel
theorem dX8_far_20 : decode cX8_far 20 = .ok (.ifCond .eq 17, 3) := by decide +kernel
theorem dX8_far_23 : decode cX8_far 23 = .ok (.aload_n 0, 1) := by decide +kernel
theorem dX8_far_24 : decode cX8_far 24 = .ok (.aload_n 0, 1) := by decide +kernel
theorem dX8_far_25 : decode cX8_far 25 = .ok (.iload_n 1, 1) := by decide +kernel
theorem dX8_far_26 : decode cX8_far 26 = .ok (.iload_n 2, 1) := by decide +kernel
theorem dX8_far_27 : decode cX8_far 27 = .ok (.iload_n 3, 1) := by decide +kernel
theorem dX8_far_28 : decode cX8_far 28 = .ok (.invokevirtual 195, 3) := by decide +kernel
theorem dX8_far_31 : decode cX8_far 31 = .ok (.invokevirtual 189, 3) := by decide +kernel
theorem dX8_far_34 : decode cX8_far 34 = .ok (.goto 8, 3) := by decide +kernel
theorem dX8_far_37 : decode cX8_far 37 = .ok (.aload_n 0, 1) := by decide +kernel
theorem dX8_far_38 : decode cX8_far 38 = .ok (.iconst 1, 1) := by decide +kernel
theorem dX8_far_39 : decode cX8_far 39 = .ok (.invokevirtual 173, 3) := by decide +kernel
theorem dX8_far_42 : decode cX8_far 42 = .ok (.ireturn, 1) := by decide +kernel
theorem dX8_ballOf_0 : decode cX8_ballOf 0 = .ok (.iconst 0, 1) := by decide +kernel
theorem dX8_ballOf_1 : decode cX8_ballOf 1 = .ok (.istore_n 3, 1) := by decide +kernel
theorem dX8_ballOf_2 : decode cX8_ballOf 2 = .ok (.iconst 0, 1) := by decide +kernel
theorem dX8_ballOf_3 : decode cX8_ballOf 3 = .ok (.istore 4, 2) := by decide +kernel
theorem dX8_ballOf_5 : decode cX8_ballOf 5 = .ok (.iload 4, 2) := by decide +kernel
theorem dX8_ballOf_7 : decode cX8_ballOf 7 = .ok (.aload_n 0, 1) := by decide +kernel
theorem dX8_ballOf_8 : decode cX8_ballOf 8 = .ok (.iload_n 1, 1) := by decide +kernel
theorem dX8_ballOf_9 : decode cX8_ballOf 9 = .ok (.invokevirtual 113, 3) := by decide +kernel
theorem dX8_ballOf_12 : decode cX8_ballOf 12 = .ok (.if_icmp .ge 29, 3) := by decide +kernel
theorem dX8_ballOf_15 : decode cX8_ballOf 15 = .ok (.iload_n 3, 1) := by decide +kernel
theorem dX8_ballOf_16 : decode cX8_ballOf 16 = .ok (.aload_n 0, 1) := by decide +kernel
theorem dX8_ballOf_17 : decode cX8_ballOf 17 = .ok (.iload_n 1, 1) := by decide +kernel
theorem dX8_ballOf_18 : decode cX8_ballOf 18 = .ok (.iconst 0, 1) := by decide +kernel
theorem dX8_ballOf_19 : decode cX8_ballOf 19 = .ok (.iload 4, 2) := by decide +kernel
theorem dX8_ballOf_21 : decode cX8_ballOf 21 = .ok (.invokevirtual 195, 3) := by decide +kernel
theorem dX8_ballOf_24 : decode cX8_ballOf 24 = .ok (.iload_n 2, 1) := by decide +kernel
theorem dX8_ballOf_25 : decode cX8_ballOf 25 = .ok (.if_icmp .gt 7, 3) := by decide +kernel
theorem dX8_ballOf_28 : decode cX8_ballOf 28 = .ok (.iconst 1, 1) := by decide +kernel
theorem dX8_ballOf_29 : decode cX8_ballOf 29 = .ok (.goto 4, 3) := by decide +kernel
theorem dX8_ballOf_32 : decode cX8_ballOf 32 = .ok (.iconst 0, 1) := by decide +kernel
theorem dX8_ballOf_33 : decode cX8_ballOf 33 = .ok (.iadd, 1) := by decide +kernel
theorem dX8_ballOf_34 : decode cX8_ballOf 34 = .ok (.istore_n 3, 1) := by decide +kernel
theorem dX8_ballOf_35 : decode cX8_ballOf 35 = .ok (.iinc 4 1, 3) := by decide +kernel
theorem dX8_ballOf_38 : decode cX8_ballOf 38 = .ok (.goto (-33), 3) := by decide +kernel
theorem dX8_ballOf_41 : decode cX8_ballOf 41 = .ok (.iload_n 3, 1) := by decide +kernel
theorem dX8_ballOf_42 : decode cX8_ballOf 42 = .ok (.ireturn, 1) := by decide +kernel
theorem dX8_ball_0 : decode cX8_ball 0 = .ok (.aload_n 0, 1) := by decide +kernel
theorem dX8_ball_1 : decode cX8_ball 1 = .ok (.iconst 0, 1) := by decide +kernel
theorem dX8_ball_2 : decode cX8_ball 2 = .ok (.putfield 42, 3) := by decide +kernel
theorem dX8_ball_5 : decode cX8_ball 5 = .ok (.aload_n 0, 1) := by decide +kernel
theorem dX8_ball_6 : decode cX8_ball 6 = .ok (.iload_n 1, 1) := by decide +kernel
theorem dX8_ball_7 : decode cX8_ball 7 = .ok (.invokevirtual 192, 3) := by decide +kernel
theorem dX8_ball_10 : decode cX8_ball 10 = .ok (.ifCond .ne 9, 3) := by decide +kernel
theorem dX8_ball_13 : decode cX8_ball 13 = .ok (.aload_n 0, 1) := by decide +kernel
theorem dX8_ball_14 : decode cX8_ball 14 = .ok (.iconst 1, 1) := by decide +kernel
theorem dX8_ball_15 : decode cX8_ball 15 = .ok (.invokevirtual 173, 3) := by decide +kernel
theorem dX8_ball_18 : decode cX8_ball 18 = .ok (.ireturn, 1) := by decide +kernel
theorem dX8_ball_19 : decode cX8_ball 19 = .ok (.iload_n 2, 1) := by decide +kernel
theorem dX8_ball_20 : decode cX8_ball 20 = .ok (.invokestatic 223, 3) := by decide +kernel
theorem dX8_ball_23 : decode cX8_ball 23 = .ok (.ifCond .eq 16, 3) := by decide +kernel
theorem dX8_ball_26 : decode cX8_ball 26 = .ok (.aload_n 0, 1) := by decide +kernel
theorem dX8_ball_27 : decode cX8_ball 27 = .ok (.aload_n 0, 1) := by decide +kernel
theorem dX8_ball_28 : decode cX8_ball 28 = .ok (.iload_n 1, 1) := by decide +kernel
theorem dX8_ball_29 : decode cX8_ball 29 = .ok (.iload_n 2, 1) := by decide +kernel
theorem dX8_ball_30 : decode cX8_ball 30 = .ok (.invokevirtual 226, 3) := by decide +kernel
theorem dX8_ball_33 : decode cX8_ball 33 = .ok (.invokevirtual 189, 3) := by decide +kernel
theorem dX8_ball_36 : decode cX8_ball 36 = .ok (.goto 8, 3) := by decide +kernel
theorem dX8_ball_39 : decode cX8_ball 39 = .ok (.aload_n 0, 1) := by decide +kernel
theorem dX8_ball_40 : decode cX8_ball 40 = .ok (.iconst 2, 1) := by decide +kernel
theorem dX8_ball_41 : decode cX8_ball 41 = .ok (.invokevirtual 173, 3) := by decide +kernel
theorem dX8_ball_44 : decode cX8_ball 44 = .ok (.ireturn, 1) := by decide +kernel
theorem dX8_ballAt_0 : decode cX8_ballAt 0 = .ok (.aload_n 0, 1) := by decide +kernel
theorem dX8_ballAt_1 : decode cX8_ballAt 1 = .ok (.iconst 0, 1) := by decide +kernel
theorem dX8_ballAt_2 : decode cX8_ballAt 2 = .ok (.putfield 42, 3) := by decide +kernel
theorem dX8_ballAt_5 : decode cX8_ballAt 5 = .ok (.aload_n 0, 1) := by decide +kernel
theorem dX8_ballAt_6 : decode cX8_ballAt 6 = .ok (.iload_n 1, 1) := by decide +kernel
theorem dX8_ballAt_7 : decode cX8_ballAt 7 = .ok (.iload_n 2, 1) := by decide +kernel
theorem dX8_ballAt_8 : decode cX8_ballAt 8 = .ok (.invokevirtual 217, 3) := by decide +kernel
theorem dX8_ballAt_11 : decode cX8_ballAt 11 = .ok (.ifCond .eq 8, 3) := by decide +kernel
theorem dX8_ballAt_14 : decode cX8_ballAt 14 = .ok (.iload 4, 2) := by decide +kernel
theorem dX8_ballAt_16 : decode cX8_ballAt 16 = .ok (.ifCond .ge 9, 3) := by decide +kernel
theorem dX8_ballAt_19 : decode cX8_ballAt 19 = .ok (.aload_n 0, 1) := by decide +kernel
theorem dX8_ballAt_20 : decode cX8_ballAt 20 = .ok (.iconst 1, 1) := by decide +kernel
theorem dX8_ballAt_21 : decode cX8_ballAt 21 = .ok (.invokevirtual 173, 3) := by decide +kernel
theorem dX8_ballAt_24 : decode cX8_ballAt 24 = .ok (.ireturn, 1) := by decide +kernel
theorem dX8_ballAt_25 : decode cX8_ballAt 25 = .ok (.iload_n 3, 1) := by decide +kernel
theorem dX8_ballAt_26 : decode cX8_ballAt 26 = .ok (.invokestatic 223, 3) := by decide +kernel
theorem dX8_ballAt_29 : decode cX8_ballAt 29 = .ok (.ifCond .ne 9, 3) := by decide +kernel
theorem dX8_ballAt_32 : decode cX8_ballAt 32 = .ok (.aload_n 0, 1) := by decide +kernel
theorem dX8_ballAt_33 : decode cX8_ballAt 33 = .ok (.iconst 2, 1) := by decide +kernel
theorem dX8_ballAt_34 : decode cX8_ballAt 34 = .ok (.invokevirtual 173, 3) := by decide +kernel
theorem dX8_ballAt_37 : decode cX8_ballAt 37 = .ok (.ireturn, 1) := by decide +kernel
theorem dX8_ballAt_38 : decode cX8_ballAt 38 = .ok (.iload 4, 2) := by decide +kernel
theorem dX8_ballAt_40 : decode cX8_ballAt 40 = .ok (.istore 5, 2) := by decide +kernel
theorem dX8_ballAt_42 : decode cX8_ballAt 42 = .ok (.iconst 0, 1) := by decide +kernel
theorem dX8_ballAt_43 : decode cX8_ballAt 43 = .ok (.istore 6, 2) := by decide +kernel
theorem dX8_ballAt_45 : decode cX8_ballAt 45 = .ok (.iload 6, 2) := by decide +kernel
theorem dX8_ballAt_47 : decode cX8_ballAt 47 = .ok (.aload_n 0, 1) := by decide +kernel
theorem dX8_ballAt_48 : decode cX8_ballAt 48 = .ok (.iload_n 1, 1) := by decide +kernel
theorem dX8_ballAt_49 : decode cX8_ballAt 49 = .ok (.invokevirtual 113, 3) := by decide +kernel
theorem dX8_ballAt_52 : decode cX8_ballAt 52 = .ok (.if_icmp .ge 39, 3) := by decide +kernel
theorem dX8_ballAt_55 : decode cX8_ballAt 55 = .ok (.aload_n 0, 1) := by decide +kernel
theorem dX8_ballAt_56 : decode cX8_ballAt 56 = .ok (.iload_n 1, 1) := by decide +kernel
theorem dX8_ballAt_57 : decode cX8_ballAt 57 = .ok (.iload_n 2, 1) := by decide +kernel
theorem dX8_ballAt_58 : decode cX8_ballAt 58 = .ok (.iload 6, 2) := by decide +kernel
theorem dX8_ballAt_60 : decode cX8_ballAt 60 = .ok (.invokevirtual 195, 3) := by decide +kernel
theorem dX8_ballAt_63 : decode cX8_ballAt 63 = .ok (.iload_n 3, 1) := by decide +kernel
theorem dX8_ballAt_64 : decode cX8_ballAt 64 = .ok (.if_icmp .le 6, 3) := by decide +kernel
theorem dX8_ballAt_67 : decode cX8_ballAt 67 = .ok (.goto 18, 3) := by decide +kernel
theorem dX8_ballAt_70 : decode cX8_ballAt 70 = .ok (.iload 5, 2) := by decide +kernel
theorem dX8_ballAt_72 : decode cX8_ballAt 72 = .ok (.ifCond .ne 10, 3) := by decide +kernel
theorem dX8_ballAt_75 : decode cX8_ballAt 75 = .ok (.aload_n 0, 1) := by decide +kernel
theorem dX8_ballAt_76 : decode cX8_ballAt 76 = .ok (.iload 6, 2) := by decide +kernel
theorem dX8_ballAt_78 : decode cX8_ballAt 78 = .ok (.invokevirtual 189, 3) := by decide +kernel
theorem dX8_ballAt_81 : decode cX8_ballAt 81 = .ok (.ireturn, 1) := by decide +kernel
theorem dX8_ballAt_82 : decode cX8_ballAt 82 = .ok (.iinc 5 (-1), 3) := by decide +kernel
theorem dX8_ballAt_85 : decode cX8_ballAt 85 = .ok (.iinc 6 1, 3) := by decide +kernel
theorem dX8_ballAt_88 : decode cX8_ballAt 88 = .ok (.goto (-43), 3) := by decide +kernel
theorem dX8_ballAt_91 : decode cX8_ballAt 91 = .ok (.aload_n 0, 1) := by decide +kernel
theorem dX8_ballAt_92 : decode cX8_ballAt 92 = .ok (.bipush (-2), 2) := by decide +kernel
theorem dX8_ballAt_94 : decode cX8_ballAt 94 = .ok (.invokevirtual 189, 3) := by decide +kernel
theorem dX8_ballAt_97 : decode cX8_ballAt 97 = .ok (.ireturn, 1) := by decide +kernel
theorem dX8_covered_0 : decode cX8_covered 0 = .ok (.aload_n 0, 1) := by decide +kernel
theorem dX8_covered_1 : decode cX8_covered 1 = .ok (.iconst 0, 1) := by decide +kernel
theorem dX8_covered_2 : decode cX8_covered 2 = .ok (.putfield 42, 3) := by decide +kernel
theorem dX8_covered_5 : decode cX8_covered 5 = .ok (.aload_n 0, 1) := by decide +kernel
theorem dX8_covered_6 : decode cX8_covered 6 = .ok (.iload_n 1, 1) := by decide +kernel
theorem dX8_covered_7 : decode cX8_covered 7 = .ok (.invokevirtual 192, 3) := by decide +kernel
theorem dX8_covered_10 : decode cX8_covered 10 = .ok (.ifCond .ne 9, 3) := by decide +kernel
theorem dX8_covered_13 : decode cX8_covered 13 = .ok (.aload_n 0, 1) := by decide +kernel
theorem dX8_covered_14 : decode cX8_covered 14 = .ok (.iconst 1, 1) := by decide +kernel
theorem dX8_covered_15 : decode cX8_covered 15 = .ok (.invokevirtual 173, 3) := by decide +kernel
theorem dX8_covered_18 : decode cX8_covered 18 = .ok (.ireturn, 1) := by decide +kernel
theorem dX8_covered_19 : decode cX8_covered 19 = .ok (.iload_n 2, 1) := by decide +kernel
theorem dX8_covered_20 : decode cX8_covered 20 = .ok (.invokestatic 223, 3) := by decide +kernel
theorem dX8_covered_23 : decode cX8_covered 23 = .ok (.ifCond .eq 22, 3) := by decide +kernel
theorem dX8_covered_26 : decode cX8_covered 26 = .ok (.aload_n 0, 1) := by decide +kernel
theorem dX8_covered_27 : decode cX8_covered 27 = .ok (.aload_n 0, 1) := by decide +kernel
theorem dX8_covered_28 : decode cX8_covered 28 = .ok (.iload_n 1, 1) := by decide +kernel
theorem dX8_covered_29 : decode cX8_covered 29 = .ok (.invokevirtual 113, 3) := by decide +kernel
theorem dX8_covered_32 : decode cX8_covered 32 = .ok (.aload_n 0, 1) := by decide +kernel
theorem dX8_covered_33 : decode cX8_covered 33 = .ok (.iload_n 1, 1) := by decide +kernel
theorem dX8_covered_34 : decode cX8_covered 34 = .ok (.iload_n 2, 1) := by decide +kernel
theorem dX8_covered_35 : decode cX8_covered 35 = .ok (.invokevirtual 202, 3) := by decide +kernel
theorem dX8_covered_38 : decode cX8_covered 38 = .ok (.isub, 1) := by decide +kernel
theorem dX8_covered_39 : decode cX8_covered 39 = .ok (.invokevirtual 189, 3) := by decide +kernel
theorem dX8_covered_42 : decode cX8_covered 42 = .ok (.goto 8, 3) := by decide +kernel
theorem dX8_covered_45 : decode cX8_covered 45 = .ok (.aload_n 0, 1) := by decide +kernel
theorem dX8_covered_46 : decode cX8_covered 46 = .ok (.iconst 2, 1) := by decide +kernel
theorem dX8_covered_47 : decode cX8_covered 47 = .ok (.invokevirtual 173, 3) := by decide +kernel
theorem dX8_covered_50 : decode cX8_covered 50 = .ok (.ireturn, 1) := by decide +kernel
theorem dX8_times_0 : decode cX8_times 0 = .ok (.aload_n 0, 1) := by decide +kernel
theorem dX8_times_1 : decode cX8_times 1 = .ok (.iconst 0, 1) := by decide +kernel
theorem dX8_times_2 : decode cX8_times 2 = .ok (.putfield 42, 3) := by decide +kernel
theorem dX8_times_5 : decode cX8_times 5 = .ok (.aload_n 0, 1) := by decide +kernel
theorem dX8_times_6 : decode cX8_times 6 = .ok (.iload_n 1, 1) := by decide +kernel
theorem dX8_times_7 : decode cX8_times 7 = .ok (.iload_n 2, 1) := by decide +kernel
theorem dX8_times_8 : decode cX8_times 8 = .ok (.invokevirtual 217, 3) := by decide +kernel
theorem dX8_times_11 : decode cX8_times 11 = .ok (.ifCond .ne 9, 3) := by decide +kernel
theorem dX8_times_14 : decode cX8_times 14 = .ok (.aload_n 0, 1) := by decide +kernel
theorem dX8_times_15 : decode cX8_times 15 = .ok (.iconst 1, 1) := by decide +kernel
theorem dX8_times_16 : decode cX8_times 16 = .ok (.invokevirtual 173, 3) := by decide +kernel
theorem dX8_times_19 : decode cX8_times 19 = .ok (.ireturn, 1) := by decide +kernel
theorem dX8_times_20 : decode cX8_times 20 = .ok (.iload_n 3, 1) := by decide +kernel
theorem dX8_times_21 : decode cX8_times 21 = .ok (.invokestatic 223, 3) := by decide +kernel
theorem dX8_times_24 : decode cX8_times 24 = .ok (.ifCond .ne 9, 3) := by decide +kernel
theorem dX8_times_27 : decode cX8_times 27 = .ok (.aload_n 0, 1) := by decide +kernel
theorem dX8_times_28 : decode cX8_times 28 = .ok (.iconst 2, 1) := by decide +kernel
theorem dX8_times_29 : decode cX8_times 29 = .ok (.invokevirtual 173, 3) := by decide +kernel
theorem dX8_times_32 : decode cX8_times 32 = .ok (.ireturn, 1) := by decide +kernel
theorem dX8_times_33 : decode cX8_times 33 = .ok (.aload_n 0, 1) := by decide +kernel
theorem dX8_times_34 : decode cX8_times 34 = .ok (.iload_n 1, 1) := by decide +kernel
theorem dX8_times_35 : decode cX8_times 35 = .ok (.iload_n 3, 1) := by decide +kernel
theorem dX8_times_36 : decode cX8_times 36 = .ok (.invokevirtual 202, 3) := by decide +kernel
theorem dX8_times_39 : decode cX8_times 39 = .ok (.istore 4, 2) := by decide +kernel
theorem dX8_times_41 : decode cX8_times 41 = .ok (.aload_n 0, 1) := by decide +kernel
theorem dX8_times_42 : decode cX8_times 42 = .ok (.aload_n 0, 1) := by decide +kernel
theorem dX8_times_43 : decode cX8_times 43 = .ok (.getfield 30, 3) := by decide +kernel
theorem dX8_times_46 : decode cX8_times 46 = .ok (.iload_n 2, 1) := by decide +kernel
theorem dX8_times_47 : decode cX8_times 47 = .ok (.iaload, 1) := by decide +kernel
theorem dX8_times_48 : decode cX8_times 48 = .ok (.invokevirtual 189, 3) := by decide +kernel
theorem dX8_times_51 : decode cX8_times 51 = .ok (.ireturn, 1) := by decide +kernel
theorem dX8_table_0 : decode cX8_table 0 = .ok (.aload_n 0, 1) := by decide +kernel
theorem dX8_table_1 : decode cX8_table 1 = .ok (.iconst 0, 1) := by decide +kernel
theorem dX8_table_2 : decode cX8_table 2 = .ok (.putfield 42, 3) := by decide +kernel
theorem dX8_table_5 : decode cX8_table 5 = .ok (.aload_n 0, 1) := by decide +kernel
theorem dX8_table_6 : decode cX8_table 6 = .ok (.iload_n 1, 1) := by decide +kernel
theorem dX8_table_7 : decode cX8_table 7 = .ok (.invokevirtual 192, 3) := by decide +kernel
theorem dX8_table_10 : decode cX8_table 10 = .ok (.ifCond .ne 9, 3) := by decide +kernel
theorem dX8_table_13 : decode cX8_table 13 = .ok (.aload_n 0, 1) := by decide +kernel
theorem dX8_table_14 : decode cX8_table 14 = .ok (.iconst 1, 1) := by decide +kernel
theorem dX8_table_15 : decode cX8_table 15 = .ok (.invokevirtual 173, 3) := by decide +kernel
theorem dX8_table_18 : decode cX8_table 18 = .ok (.ireturn, 1) := by decide +kernel
theorem dX8_table_19 : decode cX8_table 19 = .ok (.iload_n 2, 1) := by decide +kernel
theorem dX8_table_20 : decode cX8_table 20 = .ok (.invokestatic 223, 3) := by decide +kernel
theorem dX8_table_23 : decode cX8_table 23 = .ok (.ifCond .eq 7, 3) := by decide +kernel
theorem dX8_table_26 : decode cX8_table 26 = .ok (.iload_n 3, 1) := by decide +kernel
theorem dX8_table_27 : decode cX8_table 27 = .ok (.ifCond .ge 9, 3) := by decide +kernel
theorem dX8_table_30 : decode cX8_table 30 = .ok (.aload_n 0, 1) := by decide +kernel
theorem dX8_table_31 : decode cX8_table 31 = .ok (.iconst 2, 1) := by decide +kernel
theorem dX8_table_32 : decode cX8_table 32 = .ok (.invokevirtual 173, 3) := by decide +kernel
theorem dX8_table_35 : decode cX8_table 35 = .ok (.ireturn, 1) := by decide +kernel
theorem dX8_table_36 : decode cX8_table 36 = .ok (.aload_n 0, 1) := by decide +kernel
theorem dX8_table_37 : decode cX8_table 37 = .ok (.iload_n 1, 1) := by decide +kernel
theorem dX8_table_38 : decode cX8_table 38 = .ok (.iload_n 2, 1) := by decide +kernel
theorem dX8_table_39 : decode cX8_table 39 = .ok (.invokevirtual 202, 3) := by decide +kernel
theorem dX8_table_42 : decode cX8_table 42 = .ok (.istore 4, 2) := by decide +kernel
theorem dX8_table_44 : decode cX8_table 44 = .ok (.iconst 0, 1) := by decide +kernel
theorem dX8_table_45 : decode cX8_table 45 = .ok (.istore 4, 2) := by decide +kernel
theorem dX8_table_47 : decode cX8_table 47 = .ok (.iconst 0, 1) := by decide +kernel
theorem dX8_table_48 : decode cX8_table 48 = .ok (.istore 5, 2) := by decide +kernel
theorem dX8_table_50 : decode cX8_table 50 = .ok (.iload 5, 2) := by decide +kernel
theorem dX8_table_52 : decode cX8_table 52 = .ok (.aload_n 0, 1) := by decide +kernel
theorem dX8_table_53 : decode cX8_table 53 = .ok (.iload_n 1, 1) := by decide +kernel
theorem dX8_table_54 : decode cX8_table 54 = .ok (.invokevirtual 113, 3) := by decide +kernel
theorem dX8_table_57 : decode cX8_table 57 = .ok (.if_icmp .ge 30, 3) := by decide +kernel
theorem dX8_table_60 : decode cX8_table 60 = .ok (.iload 4, 2) := by decide +kernel
theorem dX8_table_62 : decode cX8_table 62 = .ok (.aload_n 0, 1) := by decide +kernel
theorem dX8_table_63 : decode cX8_table 63 = .ok (.getfield 30, 3) := by decide +kernel
theorem dX8_table_66 : decode cX8_table 66 = .ok (.iload 5, 2) := by decide +kernel
theorem dX8_table_68 : decode cX8_table 68 = .ok (.iaload, 1) := by decide +kernel
theorem dX8_table_69 : decode cX8_table 69 = .ok (.iload_n 3, 1) := by decide +kernel
theorem dX8_table_70 : decode cX8_table 70 = .ok (.if_icmp .ne 7, 3) := by decide +kernel
theorem dX8_table_73 : decode cX8_table 73 = .ok (.iconst 1, 1) := by decide +kernel
theorem dX8_table_74 : decode cX8_table 74 = .ok (.goto 4, 3) := by decide +kernel
theorem dX8_table_77 : decode cX8_table 77 = .ok (.iconst 0, 1) := by decide +kernel
theorem dX8_table_78 : decode cX8_table 78 = .ok (.iadd, 1) := by decide +kernel
theorem dX8_table_79 : decode cX8_table 79 = .ok (.istore 4, 2) := by decide +kernel
theorem dX8_table_81 : decode cX8_table 81 = .ok (.iinc 5 1, 3) := by decide +kernel
theorem dX8_table_84 : decode cX8_table 84 = .ok (.goto (-34), 3) := by decide +kernel
theorem dX8_table_87 : decode cX8_table 87 = .ok (.aload_n 0, 1) := by decide +kernel
theorem dX8_table_88 : decode cX8_table 88 = .ok (.iload 4, 2) := by decide +kernel
theorem dX8_table_90 : decode cX8_table 90 = .ok (.invokevirtual 189, 3) := by decide +kernel
theorem dX8_table_93 : decode cX8_table 93 = .ok (.ireturn, 1) := by decide +kernel
theorem dX8_hole_0 : decode cX8_hole 0 = .ok (.aload_n 0, 1) := by decide +kernel
theorem dX8_hole_1 : decode cX8_hole 1 = .ok (.iconst 0, 1) := by decide +kernel
theorem dX8_hole_2 : decode cX8_hole 2 = .ok (.putfield 42, 3) := by decide +kernel
theorem dX8_hole_5 : decode cX8_hole 5 = .ok (.aload_n 0, 1) := by decide +kernel
theorem dX8_hole_6 : decode cX8_hole 6 = .ok (.iload_n 1, 1) := by decide +kernel
theorem dX8_hole_7 : decode cX8_hole 7 = .ok (.invokevirtual 192, 3) := by decide +kernel
theorem dX8_hole_10 : decode cX8_hole 10 = .ok (.ifCond .eq 7, 3) := by decide +kernel
theorem dX8_hole_13 : decode cX8_hole 13 = .ok (.iload_n 3, 1) := by decide +kernel
theorem dX8_hole_14 : decode cX8_hole 14 = .ok (.ifCond .ge 9, 3) := by decide +kernel
theorem dX8_hole_17 : decode cX8_hole 17 = .ok (.aload_n 0, 1) := by decide +kernel
theorem dX8_hole_18 : decode cX8_hole 18 = .ok (.iconst 1, 1) := by decide +kernel
theorem dX8_hole_19 : decode cX8_hole 19 = .ok (.invokevirtual 173, 3) := by decide +kernel
theorem dX8_hole_22 : decode cX8_hole 22 = .ok (.ireturn, 1) := by decide +kernel
theorem dX8_hole_23 : decode cX8_hole 23 = .ok (.iload_n 2, 1) := by decide +kernel
theorem dX8_hole_24 : decode cX8_hole 24 = .ok (.invokestatic 223, 3) := by decide +kernel
theorem dX8_hole_27 : decode cX8_hole 27 = .ok (.ifCond .ne 9, 3) := by decide +kernel
theorem dX8_hole_30 : decode cX8_hole 30 = .ok (.aload_n 0, 1) := by decide +kernel
theorem dX8_hole_31 : decode cX8_hole 31 = .ok (.iconst 2, 1) := by decide +kernel
theorem dX8_hole_32 : decode cX8_hole 32 = .ok (.invokevirtual 173, 3) := by decide +kernel
theorem dX8_hole_35 : decode cX8_hole 35 = .ok (.ireturn, 1) := by decide +kernel
theorem dX8_hole_36 : decode cX8_hole 36 = .ok (.iload_n 3, 1) := by decide +kernel
theorem dX8_hole_37 : decode cX8_hole 37 = .ok (.istore 4, 2) := by decide +kernel
theorem dX8_hole_39 : decode cX8_hole 39 = .ok (.aload_n 0, 1) := by decide +kernel
theorem dX8_hole_40 : decode cX8_hole 40 = .ok (.iload_n 1, 1) := by decide +kernel
theorem dX8_hole_41 : decode cX8_hole 41 = .ok (.iload_n 2, 1) := by decide +kernel
theorem dX8_hole_42 : decode cX8_hole 42 = .ok (.invokevirtual 202, 3) := by decide +kernel
theorem dX8_hole_45 : decode cX8_hole 45 = .ok (.istore 5, 2) := by decide +kernel
theorem dX8_hole_47 : decode cX8_hole 47 = .ok (.iconst 0, 1) := by decide +kernel
theorem dX8_hole_48 : decode cX8_hole 48 = .ok (.istore 6, 2) := by decide +kernel
theorem dX8_hole_50 : decode cX8_hole 50 = .ok (.iload 6, 2) := by decide +kernel
theorem dX8_hole_52 : decode cX8_hole 52 = .ok (.aload_n 0, 1) := by decide +kernel
theorem dX8_hole_53 : decode cX8_hole 53 = .ok (.iload_n 1, 1) := by decide +kernel
theorem dX8_hole_54 : decode cX8_hole 54 = .ok (.invokevirtual 113, 3) := by decide +kernel
theorem dX8_hole_57 : decode cX8_hole 57 = .ok (.if_icmp .ge 42, 3) := by decide +kernel
theorem dX8_hole_60 : decode cX8_hole 60 = .ok (.iload 5, 2) := by decide +kernel
theorem dX8_hole_62 : decode cX8_hole 62 = .ok (.ifCond .le 37, 3) := by decide +kernel
theorem dX8_hole_65 : decode cX8_hole 65 = .ok (.aload_n 0, 1) := by decide +kernel
theorem dX8_hole_66 : decode cX8_hole 66 = .ok (.getfield 30, 3) := by decide +kernel
theorem dX8_hole_69 : decode cX8_hole 69 = .ok (.iload 6, 2) := by decide +kernel
theorem dX8_hole_71 : decode cX8_hole 71 = .ok (.iaload, 1) := by decide +kernel
theorem dX8_hole_72 : decode cX8_hole 72 = .ok (.ifCond .le 6, 3) := by decide +kernel
theorem dX8_hole_75 : decode cX8_hole 75 = .ok (.goto 18, 3) := by decide +kernel
theorem dX8_hole_78 : decode cX8_hole 78 = .ok (.iload 4, 2) := by decide +kernel
theorem dX8_hole_80 : decode cX8_hole 80 = .ok (.ifCond .ne 10, 3) := by decide +kernel
theorem dX8_hole_83 : decode cX8_hole 83 = .ok (.aload_n 0, 1) := by decide +kernel
theorem dX8_hole_84 : decode cX8_hole 84 = .ok (.iload 6, 2) := by decide +kernel
theorem dX8_hole_86 : decode cX8_hole 86 = .ok (.invokevirtual 189, 3) := by decide +kernel
theorem dX8_hole_89 : decode cX8_hole 89 = .ok (.ireturn, 1) := by decide +kernel
theorem dX8_hole_90 : decode cX8_hole 90 = .ok (.iinc 4 (-1), 3) := by decide +kernel
theorem dX8_hole_93 : decode cX8_hole 93 = .ok (.iinc 6 1, 3) := by decide +kernel
theorem dX8_hole_96 : decode cX8_hole 96 = .ok (.goto (-46), 3) := by decide +kernel
theorem dX8_hole_99 : decode cX8_hole 99 = .ok (.aload_n 0, 1) := by decide +kernel
theorem dX8_hole_100 : decode cX8_hole 100 = .ok (.bipush (-2), 2) := by decide +kernel
theorem dX8_hole_102 : decode cX8_hole 102 = .ok (.invokevirtual 189, 3) := by decide +kernel
theorem dX8_hole_105 : decode cX8_hole 105 = .ok (.ireturn, 1) := by decide +kernel
theorem dX8_isIdle_0 : decode cX8_isIdle 0 = .ok (.iconst 0, 1) := by decide +kernel
theorem dX8_isIdle_1 : decode cX8_isIdle 1 = .ok (.istore 4, 2) := by decide +kernel
theorem dX8_isIdle_3 : decode cX8_isIdle 3 = .ok (.iload 4, 2) := by decide +kernel
theorem dX8_isIdle_5 : decode cX8_isIdle 5 = .ok (.aload_n 0, 1) := by decide +kernel
theorem dX8_isIdle_6 : decode cX8_isIdle 6 = .ok (.iload_n 1, 1) := by decide +kernel
theorem dX8_isIdle_7 : decode cX8_isIdle 7 = .ok (.invokevirtual 113, 3) := by decide +kernel
theorem dX8_isIdle_10 : decode cX8_isIdle 10 = .ok (.if_icmp .ge 34, 3) := by decide +kernel
theorem dX8_isIdle_13 : decode cX8_isIdle 13 = .ok (.aload_n 0, 1) := by decide +kernel
theorem dX8_isIdle_14 : decode cX8_isIdle 14 = .ok (.getfield 30, 3) := by decide +kernel
theorem dX8_isIdle_17 : decode cX8_isIdle 17 = .ok (.iload 4, 2) := by decide +kernel
theorem dX8_isIdle_19 : decode cX8_isIdle 19 = .ok (.iaload, 1) := by decide +kernel
theorem dX8_isIdle_20 : decode cX8_isIdle 20 = .ok (.iconst 1, 1) := by decide +kernel
theorem dX8_isIdle_21 : decode cX8_isIdle 21 = .ok (.if_icmp .ne 17, 3) := by decide +kernel
theorem dX8_isIdle_24 : decode cX8_isIdle 24 = .ok (.aload_n 0, 1) := by decide +kernel
theorem dX8_isIdle_25 : decode cX8_isIdle 25 = .ok (.iload_n 1, 1) := by decide +kernel
theorem dX8_isIdle_26 : decode cX8_isIdle 26 = .ok (.iload_n 2, 1) := by decide +kernel
theorem dX8_isIdle_27 : decode cX8_isIdle 27 = .ok (.iload 4, 2) := by decide +kernel
theorem dX8_isIdle_29 : decode cX8_isIdle 29 = .ok (.invokevirtual 195, 3) := by decide +kernel
theorem dX8_isIdle_32 : decode cX8_isIdle 32 = .ok (.iload_n 3, 1) := by decide +kernel
theorem dX8_isIdle_33 : decode cX8_isIdle 33 = .ok (.if_icmp .gt 5, 3) := by decide +kernel
theorem dX8_isIdle_36 : decode cX8_isIdle 36 = .ok (.iconst 0, 1) := by decide +kernel
theorem dX8_isIdle_37 : decode cX8_isIdle 37 = .ok (.ireturn, 1) := by decide +kernel
theorem dX8_isIdle_38 : decode cX8_isIdle 38 = .ok (.iinc 4 1, 3) := by decide +kernel
theorem dX8_isIdle_41 : decode cX8_isIdle 41 = .ok (.goto (-38), 3) := by decide +kernel
theorem dX8_isIdle_44 : decode cX8_isIdle 44 = .ok (.iconst 1, 1) := by decide +kernel
theorem dX8_isIdle_45 : decode cX8_isIdle 45 = .ok (.ireturn, 1) := by decide +kernel
theorem dX8_idle_0 : decode cX8_idle 0 = .ok (.aload_n 0, 1) := by decide +kernel
theorem dX8_idle_1 : decode cX8_idle 1 = .ok (.iconst 0, 1) := by decide +kernel
theorem dX8_idle_2 : decode cX8_idle 2 = .ok (.putfield 42, 3) := by decide +kernel
theorem dX8_idle_5 : decode cX8_idle 5 = .ok (.aload_n 0, 1) := by decide +kernel
theorem dX8_idle_6 : decode cX8_idle 6 = .ok (.iload_n 1, 1) := by decide +kernel
theorem dX8_idle_7 : decode cX8_idle 7 = .ok (.invokevirtual 192, 3) := by decide +kernel
theorem dX8_idle_10 : decode cX8_idle 10 = .ok (.ifCond .eq 7, 3) := by decide +kernel
theorem dX8_idle_13 : decode cX8_idle 13 = .ok (.iload_n 3, 1) := by decide +kernel
theorem dX8_idle_14 : decode cX8_idle 14 = .ok (.ifCond .ge 9, 3) := by decide +kernel
theorem dX8_idle_17 : decode cX8_idle 17 = .ok (.aload_n 0, 1) := by decide +kernel
theorem dX8_idle_18 : decode cX8_idle 18 = .ok (.iconst 1, 1) := by decide +kernel
theorem dX8_idle_19 : decode cX8_idle 19 = .ok (.invokevirtual 173, 3) := by decide +kernel
theorem dX8_idle_22 : decode cX8_idle 22 = .ok (.ireturn, 1) := by decide +kernel
theorem dX8_idle_23 : decode cX8_idle 23 = .ok (.iload_n 2, 1) := by decide +kernel
theorem dX8_idle_24 : decode cX8_idle 24 = .ok (.invokestatic 223, 3) := by decide +kernel
theorem dX8_idle_27 : decode cX8_idle 27 = .ok (.ifCond .ne 9, 3) := by decide +kernel
theorem dX8_idle_30 : decode cX8_idle 30 = .ok (.aload_n 0, 1) := by decide +kernel
theorem dX8_idle_31 : decode cX8_idle 31 = .ok (.iconst 2, 1) := by decide +kernel
theorem dX8_idle_32 : decode cX8_idle 32 = .ok (.invokevirtual 173, 3) := by decide +kernel
theorem dX8_idle_35 : decode cX8_idle 35 = .ok (.ireturn, 1) := by decide +kernel
theorem dX8_idle_36 : decode cX8_idle 36 = .ok (.aload_n 0, 1) := by decide +kernel
theorem dX8_idle_37 : decode cX8_idle 37 = .ok (.iload_n 1, 1) := by decide +kernel
theorem dX8_idle_38 : decode cX8_idle 38 = .ok (.iload_n 2, 1) := by decide +kernel
theorem dX8_idle_39 : decode cX8_idle 39 = .ok (.invokevirtual 202, 3) := by decide +kernel
theorem dX8_idle_42 : decode cX8_idle 42 = .ok (.istore 4, 2) := by decide +kernel
theorem dX8_idle_44 : decode cX8_idle 44 = .ok (.iload_n 3, 1) := by decide +kernel
theorem dX8_idle_45 : decode cX8_idle 45 = .ok (.istore 4, 2) := by decide +kernel
theorem dX8_idle_47 : decode cX8_idle 47 = .ok (.iconst 0, 1) := by decide +kernel
theorem dX8_idle_48 : decode cX8_idle 48 = .ok (.istore 5, 2) := by decide +kernel
theorem dX8_idle_50 : decode cX8_idle 50 = .ok (.iload 5, 2) := by decide +kernel
theorem dX8_idle_52 : decode cX8_idle 52 = .ok (.aload_n 0, 1) := by decide +kernel
theorem dX8_idle_53 : decode cX8_idle 53 = .ok (.iload_n 1, 1) := by decide +kernel
theorem dX8_idle_54 : decode cX8_idle 54 = .ok (.invokevirtual 113, 3) := by decide +kernel
theorem dX8_idle_57 : decode cX8_idle 57 = .ok (.if_icmp .ge 48, 3) := by decide +kernel
theorem dX8_idle_60 : decode cX8_idle 60 = .ok (.aload_n 0, 1) := by decide +kernel
theorem dX8_idle_61 : decode cX8_idle 61 = .ok (.iload_n 1, 1) := by decide +kernel
theorem dX8_idle_62 : decode cX8_idle 62 = .ok (.iload 5, 2) := by decide +kernel
theorem dX8_idle_64 : decode cX8_idle 64 = .ok (.invokevirtual 116, 3) := by decide +kernel
theorem dX8_idle_67 : decode cX8_idle 67 = .ok (.ifCond .eq 32, 3) := by decide +kernel
theorem dX8_idle_70 : decode cX8_idle 70 = .ok (.aload_n 0, 1) := by decide +kernel
theorem dX8_idle_71 : decode cX8_idle 71 = .ok (.iload_n 1, 1) := by decide +kernel
theorem dX8_idle_72 : decode cX8_idle 72 = .ok (.iload 5, 2) := by decide +kernel
theorem dX8_idle_74 : decode cX8_idle 74 = .ok (.iload_n 2, 1) := by decide +kernel
theorem dX8_idle_75 : decode cX8_idle 75 = .ok (.invokevirtual 229, 3) := by decide +kernel
theorem dX8_idle_78 : decode cX8_idle 78 = .ok (.ifCond .ne 6, 3) := by decide +kernel
theorem dX8_idle_81 : decode cX8_idle 81 = .ok (.goto 18, 3) := by decide +kernel
theorem dX8_idle_84 : decode cX8_idle 84 = .ok (.iload 4, 2) := by decide +kernel
theorem dX8_idle_86 : decode cX8_idle 86 = .ok (.ifCond .ne 10, 3) := by decide +kernel
theorem dX8_idle_89 : decode cX8_idle 89 = .ok (.aload_n 0, 1) := by decide +kernel
theorem dX8_idle_90 : decode cX8_idle 90 = .ok (.iload 5, 2) := by decide +kernel
theorem dX8_idle_92 : decode cX8_idle 92 = .ok (.invokevirtual 189, 3) := by decide +kernel
theorem dX8_idle_95 : decode cX8_idle 95 = .ok (.ireturn, 1) := by decide +kernel
theorem dX8_idle_96 : decode cX8_idle 96 = .ok (.iinc 4 (-1), 3) := by decide +kernel
theorem dX8_idle_99 : decode cX8_idle 99 = .ok (.iinc 5 1, 3) := by decide +kernel
theorem dX8_idle_102 : decode cX8_idle 102 = .ok (.goto (-52), 3) := by decide +kernel
theorem dX8_idle_105 : decode cX8_idle 105 = .ok (.aload_n 0, 1) := by decide +kernel
theorem dX8_idle_106 : decode cX8_idle 106 = .ok (.bipush (-2), 2) := by decide +kernel
theorem dX8_idle_108 : decode cX8_idle 108 = .ok (.invokevirtual 189, 3) := by decide +kernel
theorem dX8_idle_111 : decode cX8_idle 111 = .ok (.ireturn, 1) := by decide +kernel
theorem dX8_excess_0 : decode cX8_excess 0 = .ok (.aload_n 0, 1) := by decide +kernel
theorem dX8_excess_1 : decode cX8_excess 1 = .ok (.iconst 0, 1) := by decide +kernel
theorem dX8_excess_2 : decode cX8_excess 2 = .ok (.putfield 42, 3) := by decide +kernel
theorem dX8_excess_5 : decode cX8_excess 5 = .ok (.aload_n 0, 1) := by decide +kernel
theorem dX8_excess_6 : decode cX8_excess 6 = .ok (.iload_n 1, 1) := by decide +kernel
theorem dX8_excess_7 : decode cX8_excess 7 = .ok (.invokevirtual 192, 3) := by decide +kernel
theorem dX8_excess_10 : decode cX8_excess 10 = .ok (.ifCond .ne 9, 3) := by decide +kernel
theorem dX8_excess_13 : decode cX8_excess 13 = .ok (.aload_n 0, 1) := by decide +kernel
theorem dX8_excess_14 : decode cX8_excess 14 = .ok (.iconst 1, 1) := by decide +kernel
theorem dX8_excess_15 : decode cX8_excess 15 = .ok (.invokevirtual 173, 3) := by decide +kernel
theorem dX8_excess_18 : decode cX8_excess 18 = .ok (.ireturn, 1) := by decide +kernel
theorem dX8_excess_19 : decode cX8_excess 19 = .ok (.iload_n 2, 1) := by decide +kernel
theorem dX8_excess_20 : decode cX8_excess 20 = .ok (.invokestatic 223, 3) := by decide +kernel
theorem dX8_excess_23 : decode cX8_excess 23 = .ok (.ifCond .ne 9, 3) := by decide +kernel
theorem dX8_excess_26 : decode cX8_excess 26 = .ok (.aload_n 0, 1) := by decide +kernel
theorem dX8_excess_27 : decode cX8_excess 27 = .ok (.iconst 2, 1) := by decide +kernel
theorem dX8_excess_28 : decode cX8_excess 28 = .ok (.invokevirtual 173, 3) := by decide +kernel
theorem dX8_excess_31 : decode cX8_excess 31 = .ok (.ireturn, 1) := by decide +kernel
theorem dX8_excess_32 : decode cX8_excess 32 = .ok (.aload_n 0, 1) := by decide +kernel
theorem dX8_excess_33 : decode cX8_excess 33 = .ok (.iload_n 1, 1) := by decide +kernel
theorem dX8_excess_34 : decode cX8_excess 34 = .ok (.iload_n 2, 1) := by decide +kernel
theorem dX8_excess_35 : decode cX8_excess 35 = .ok (.invokevirtual 202, 3) := by decide +kernel
theorem dX8_excess_38 : decode cX8_excess 38 = .ok (.istore_n 3, 1) := by decide +kernel
theorem dX8_excess_39 : decode cX8_excess 39 = .ok (.iconst 0, 1) := by decide +kernel
theorem dX8_excess_40 : decode cX8_excess 40 = .ok (.istore_n 3, 1) := by decide +kernel
theorem dX8_excess_41 : decode cX8_excess 41 = .ok (.iconst 0, 1) := by decide +kernel
theorem dX8_excess_42 : decode cX8_excess 42 = .ok (.istore 4, 2) := by decide +kernel
theorem dX8_excess_44 : decode cX8_excess 44 = .ok (.iload 4, 2) := by decide +kernel
theorem dX8_excess_46 : decode cX8_excess 46 = .ok (.aload_n 0, 1) := by decide +kernel
theorem dX8_excess_47 : decode cX8_excess 47 = .ok (.iload_n 1, 1) := by decide +kernel
theorem dX8_excess_48 : decode cX8_excess 48 = .ok (.invokevirtual 113, 3) := by decide +kernel
theorem dX8_excess_51 : decode cX8_excess 51 = .ok (.if_icmp .ge 35, 3) := by decide +kernel
theorem dX8_excess_54 : decode cX8_excess 54 = .ok (.iload_n 3, 1) := by decide +kernel
theorem dX8_excess_55 : decode cX8_excess 55 = .ok (.aload_n 0, 1) := by decide +kernel
theorem dX8_excess_56 : decode cX8_excess 56 = .ok (.getfield 30, 3) := by decide +kernel
theorem dX8_excess_59 : decode cX8_excess 59 = .ok (.iload 4, 2) := by decide +kernel
theorem dX8_excess_61 : decode cX8_excess 61 = .ok (.iaload, 1) := by decide +kernel
theorem dX8_excess_62 : decode cX8_excess 62 = .ok (.ifCond .le 15, 3) := by decide +kernel
theorem dX8_excess_65 : decode cX8_excess 65 = .ok (.aload_n 0, 1) := by decide +kernel
theorem dX8_excess_66 : decode cX8_excess 66 = .ok (.getfield 30, 3) := by decide +kernel
theorem dX8_excess_69 : decode cX8_excess 69 = .ok (.iload 4, 2) := by decide +kernel
theorem dX8_excess_71 : decode cX8_excess 71 = .ok (.iaload, 1) := by decide +kernel
theorem dX8_excess_72 : decode cX8_excess 72 = .ok (.iconst 1, 1) := by decide +kernel
theorem dX8_excess_73 : decode cX8_excess 73 = .ok (.isub, 1) := by decide +kernel
theorem dX8_excess_74 : decode cX8_excess 74 = .ok (.goto 4, 3) := by decide +kernel
theorem dX8_excess_77 : decode cX8_excess 77 = .ok (.iconst 0, 1) := by decide +kernel
theorem dX8_excess_78 : decode cX8_excess 78 = .ok (.iadd, 1) := by decide +kernel
theorem dX8_excess_79 : decode cX8_excess 79 = .ok (.istore_n 3, 1) := by decide +kernel
theorem dX8_excess_80 : decode cX8_excess 80 = .ok (.iinc 4 1, 3) := by decide +kernel
theorem dX8_excess_83 : decode cX8_excess 83 = .ok (.goto (-39), 3) := by decide +kernel
theorem dX8_excess_86 : decode cX8_excess 86 = .ok (.aload_n 0, 1) := by decide +kernel
theorem dX8_excess_87 : decode cX8_excess 87 = .ok (.iload_n 3, 1) := by decide +kernel
theorem dX8_excess_88 : decode cX8_excess 88 = .ok (.invokevirtual 189, 3) := by decide +kernel
theorem dX8_excess_91 : decode cX8_excess 91 = .ok (.ireturn, 1) := by decide +kernel
theorem dX8_bound_0 : decode cX8_bound 0 = .ok (.aload_n 0, 1) := by decide +kernel
theorem dX8_bound_1 : decode cX8_bound 1 = .ok (.iconst 0, 1) := by decide +kernel
theorem dX8_bound_2 : decode cX8_bound 2 = .ok (.putfield 42, 3) := by decide +kernel
theorem dX8_bound_5 : decode cX8_bound 5 = .ok (.aload_n 0, 1) := by decide +kernel
theorem dX8_bound_6 : decode cX8_bound 6 = .ok (.iload_n 1, 1) := by decide +kernel
theorem dX8_bound_7 : decode cX8_bound 7 = .ok (.invokevirtual 192, 3) := by decide +kernel
theorem dX8_bound_10 : decode cX8_bound 10 = .ok (.ifCond .ne 9, 3) := by decide +kernel
theorem dX8_bound_13 : decode cX8_bound 13 = .ok (.aload_n 0, 1) := by decide +kernel
theorem dX8_bound_14 : decode cX8_bound 14 = .ok (.iconst 1, 1) := by decide +kernel
theorem dX8_bound_15 : decode cX8_bound 15 = .ok (.invokevirtual 173, 3) := by decide +kernel
theorem dX8_bound_18 : decode cX8_bound 18 = .ok (.ireturn, 1) := by decide +kernel
theorem dX8_bound_19 : decode cX8_bound 19 = .ok (.iload_n 2, 1) := by decide +kernel
theorem dX8_bound_20 : decode cX8_bound 20 = .ok (.invokestatic 223, 3) := by decide +kernel
theorem dX8_bound_23 : decode cX8_bound 23 = .ok (.ifCond .ne 9, 3) := by decide +kernel
theorem dX8_bound_26 : decode cX8_bound 26 = .ok (.aload_n 0, 1) := by decide +kernel
theorem dX8_bound_27 : decode cX8_bound 27 = .ok (.iconst 2, 1) := by decide +kernel
theorem dX8_bound_28 : decode cX8_bound 28 = .ok (.invokevirtual 173, 3) := by decide +kernel
theorem dX8_bound_31 : decode cX8_bound 31 = .ok (.ireturn, 1) := by decide +kernel
theorem dX8_bound_32 : decode cX8_bound 32 = .ok (.aload_n 0, 1) := by decide +kernel
theorem dX8_bound_33 : decode cX8_bound 33 = .ok (.iload_n 1, 1) := by decide +kernel
theorem dX8_bound_34 : decode cX8_bound 34 = .ok (.iload_n 2, 1) := by decide +kernel
theorem dX8_bound_35 : decode cX8_bound 35 = .ok (.invokevirtual 226, 3) := by decide +kernel
theorem dX8_bound_38 : decode cX8_bound 38 = .ok (.istore_n 3, 1) := by decide +kernel
theorem dX8_bound_39 : decode cX8_bound 39 = .ok (.aload_n 0, 1) := by decide +kernel
theorem dX8_bound_40 : decode cX8_bound 40 = .ok (.aload_n 0, 1) := by decide +kernel
theorem dX8_bound_41 : decode cX8_bound 41 = .ok (.iload_n 1, 1) := by decide +kernel
theorem dX8_bound_42 : decode cX8_bound 42 = .ok (.invokevirtual 113, 3) := by decide +kernel
theorem dX8_bound_45 : decode cX8_bound 45 = .ok (.iload_n 3, 1) := by decide +kernel
theorem dX8_bound_46 : decode cX8_bound 46 = .ok (.iadd, 1) := by decide +kernel
theorem dX8_bound_47 : decode cX8_bound 47 = .ok (.iconst 1, 1) := by decide +kernel
theorem dX8_bound_48 : decode cX8_bound 48 = .ok (.isub, 1) := by decide +kernel
theorem dX8_bound_49 : decode cX8_bound 49 = .ok (.iload_n 3, 1) := by decide +kernel
theorem dX8_bound_50 : decode cX8_bound 50 = .ok (.idiv, 1) := by decide +kernel
theorem dX8_bound_51 : decode cX8_bound 51 = .ok (.invokevirtual 189, 3) := by decide +kernel
theorem dX8_bound_54 : decode cX8_bound 54 = .ok (.ireturn, 1) := by decide +kernel
theorem dX8_pairs_0 : decode cX8_pairs 0 = .ok (.aload_n 0, 1) := by decide +kernel
theorem dX8_pairs_1 : decode cX8_pairs 1 = .ok (.iconst 0, 1) := by decide +kernel
theorem dX8_pairs_2 : decode cX8_pairs 2 = .ok (.putfield 42, 3) := by decide +kernel
theorem dX8_pairs_5 : decode cX8_pairs 5 = .ok (.aload_n 0, 1) := by decide +kernel
theorem dX8_pairs_6 : decode cX8_pairs 6 = .ok (.iload_n 1, 1) := by decide +kernel
theorem dX8_pairs_7 : decode cX8_pairs 7 = .ok (.invokevirtual 192, 3) := by decide +kernel
theorem dX8_pairs_10 : decode cX8_pairs 10 = .ok (.ifCond .ne 9, 3) := by decide +kernel
theorem dX8_pairs_13 : decode cX8_pairs 13 = .ok (.aload_n 0, 1) := by decide +kernel
theorem dX8_pairs_14 : decode cX8_pairs 14 = .ok (.iconst 1, 1) := by decide +kernel
theorem dX8_pairs_15 : decode cX8_pairs 15 = .ok (.invokevirtual 173, 3) := by decide +kernel
theorem dX8_pairs_18 : decode cX8_pairs 18 = .ok (.ireturn, 1) := by decide +kernel
theorem dX8_pairs_19 : decode cX8_pairs 19 = .ok (.iload_n 2, 1) := by decide +kernel
theorem dX8_pairs_20 : decode cX8_pairs 20 = .ok (.ifCond .ge 9, 3) := by decide +kernel
theorem dX8_pairs_23 : decode cX8_pairs 23 = .ok (.aload_n 0, 1) := by decide +kernel
theorem dX8_pairs_24 : decode cX8_pairs 24 = .ok (.iconst 2, 1) := by decide +kernel
theorem dX8_pairs_25 : decode cX8_pairs 25 = .ok (.invokevirtual 173, 3) := by decide +kernel
theorem dX8_pairs_28 : decode cX8_pairs 28 = .ok (.ireturn, 1) := by decide +kernel
theorem dX8_pairs_29 : decode cX8_pairs 29 = .ok (.iconst 0, 1) := by decide +kernel
theorem dX8_pairs_30 : decode cX8_pairs 30 = .ok (.istore_n 3, 1) := by decide +kernel
theorem dX8_pairs_31 : decode cX8_pairs 31 = .ok (.iconst 0, 1) := by decide +kernel
theorem dX8_pairs_32 : decode cX8_pairs 32 = .ok (.istore 4, 2) := by decide +kernel
theorem dX8_pairs_34 : decode cX8_pairs 34 = .ok (.iload 4, 2) := by decide +kernel
theorem dX8_pairs_36 : decode cX8_pairs 36 = .ok (.aload_n 0, 1) := by decide +kernel
theorem dX8_pairs_37 : decode cX8_pairs 37 = .ok (.iload_n 1, 1) := by decide +kernel
theorem dX8_pairs_38 : decode cX8_pairs 38 = .ok (.invokevirtual 113, 3) := by decide +kernel
theorem dX8_pairs_41 : decode cX8_pairs 41 = .ok (.if_icmp .ge 66, 3) := by decide +kernel
theorem dX8_pairs_44 : decode cX8_pairs 44 = .ok (.iconst 0, 1) := by decide +kernel
theorem dX8_pairs_45 : decode cX8_pairs 45 = .ok (.istore 5, 2) := by decide +kernel
theorem dX8_pairs_47 : decode cX8_pairs 47 = .ok (.iload 5, 2) := by decide +kernel
theorem dX8_pairs_49 : decode cX8_pairs 49 = .ok (.iload 4, 2) := by decide +kernel
theorem dX8_pairs_51 : decode cX8_pairs 51 = .ok (.if_icmp .ge 50, 3) := by decide +kernel
theorem dX8_pairs_54 : decode cX8_pairs 54 = .ok (.iload_n 3, 1) := by decide +kernel
theorem dX8_pairs_55 : decode cX8_pairs 55 = .ok (.aload_n 0, 1) := by decide +kernel
theorem dX8_pairs_56 : decode cX8_pairs 56 = .ok (.iload_n 1, 1) := by decide +kernel
theorem dX8_pairs_57 : decode cX8_pairs 57 = .ok (.iload 4, 2) := by decide +kernel
theorem dX8_pairs_59 : decode cX8_pairs 59 = .ok (.invokevirtual 116, 3) := by decide +kernel
theorem dX8_pairs_62 : decode cX8_pairs 62 = .ok (.ifCond .eq 30, 3) := by decide +kernel
theorem dX8_pairs_65 : decode cX8_pairs 65 = .ok (.aload_n 0, 1) := by decide +kernel
theorem dX8_pairs_66 : decode cX8_pairs 66 = .ok (.iload_n 1, 1) := by decide +kernel
theorem dX8_pairs_67 : decode cX8_pairs 67 = .ok (.iload 5, 2) := by decide +kernel
theorem dX8_pairs_69 : decode cX8_pairs 69 = .ok (.invokevirtual 116, 3) := by decide +kernel
theorem dX8_pairs_72 : decode cX8_pairs 72 = .ok (.ifCond .eq 20, 3) := by decide +kernel
theorem dX8_pairs_75 : decode cX8_pairs 75 = .ok (.aload_n 0, 1) := by decide +kernel
theorem dX8_pairs_76 : decode cX8_pairs 76 = .ok (.iload_n 1, 1) := by decide +kernel
theorem dX8_pairs_77 : decode cX8_pairs 77 = .ok (.iload 4, 2) := by decide +kernel
theorem dX8_pairs_79 : decode cX8_pairs 79 = .ok (.iload 5, 2) := by decide +kernel
theorem dX8_pairs_81 : decode cX8_pairs 81 = .ok (.invokevirtual 195, 3) := by decide +kernel
theorem dX8_pairs_84 : decode cX8_pairs 84 = .ok (.iload_n 2, 1) := by decide +kernel
theorem dX8_pairs_85 : decode cX8_pairs 85 = .ok (.if_icmp .ne 7, 3) := by decide +kernel
theorem dX8_pairs_88 : decode cX8_pairs 88 = .ok (.iconst 1, 1) := by decide +kernel
theorem dX8_pairs_89 : decode cX8_pairs 89 = .ok (.goto 4, 3) := by decide +kernel
theorem dX8_pairs_92 : decode cX8_pairs 92 = .ok (.iconst 0, 1) := by decide +kernel
theorem dX8_pairs_93 : decode cX8_pairs 93 = .ok (.iadd, 1) := by decide +kernel
theorem dX8_pairs_94 : decode cX8_pairs 94 = .ok (.istore_n 3, 1) := by decide +kernel
theorem dX8_pairs_95 : decode cX8_pairs 95 = .ok (.iinc 5 1, 3) := by decide +kernel
theorem dX8_pairs_98 : decode cX8_pairs 98 = .ok (.goto (-51), 3) := by decide +kernel
theorem dX8_pairs_101 : decode cX8_pairs 101 = .ok (.iinc 4 1, 3) := by decide +kernel
theorem dX8_pairs_104 : decode cX8_pairs 104 = .ok (.goto (-70), 3) := by decide +kernel
theorem dX8_pairs_107 : decode cX8_pairs 107 = .ok (.aload_n 0, 1) := by decide +kernel
theorem dX8_pairs_108 : decode cX8_pairs 108 = .ok (.iload_n 3, 1) := by decide +kernel
theorem dX8_pairs_109 : decode cX8_pairs 109 = .ok (.invokevirtual 189, 3) := by decide +kernel
theorem dX8_pairs_112 : decode cX8_pairs 112 = .ok (.ireturn, 1) := by decide +kernel
theorem dX8_mostOf_0 : decode cX8_mostOf 0 = .ok (.iconst 0, 1) := by decide +kernel
theorem dX8_mostOf_1 : decode cX8_mostOf 1 = .ok (.istore_n 3, 1) := by decide +kernel
theorem dX8_mostOf_2 : decode cX8_mostOf 2 = .ok (.iconst 0, 1) := by decide +kernel
theorem dX8_mostOf_3 : decode cX8_mostOf 3 = .ok (.istore 4, 2) := by decide +kernel
theorem dX8_mostOf_5 : decode cX8_mostOf 5 = .ok (.iload 4, 2) := by decide +kernel
theorem dX8_mostOf_7 : decode cX8_mostOf 7 = .ok (.aload_n 0, 1) := by decide +kernel
theorem dX8_mostOf_8 : decode cX8_mostOf 8 = .ok (.iload_n 1, 1) := by decide +kernel
theorem dX8_mostOf_9 : decode cX8_mostOf 9 = .ok (.invokevirtual 113, 3) := by decide +kernel
theorem dX8_mostOf_12 : decode cX8_mostOf 12 = .ok (.if_icmp .ge 40, 3) := by decide +kernel
theorem dX8_mostOf_15 : decode cX8_mostOf 15 = .ok (.aload_n 0, 1) := by decide +kernel
theorem dX8_mostOf_16 : decode cX8_mostOf 16 = .ok (.iload_n 1, 1) := by decide +kernel
theorem dX8_mostOf_17 : decode cX8_mostOf 17 = .ok (.iload 4, 2) := by decide +kernel
theorem dX8_mostOf_19 : decode cX8_mostOf 19 = .ok (.invokevirtual 116, 3) := by decide +kernel
theorem dX8_mostOf_22 : decode cX8_mostOf 22 = .ok (.ifCond .eq 24, 3) := by decide +kernel
theorem dX8_mostOf_25 : decode cX8_mostOf 25 = .ok (.aload_n 0, 1) := by decide +kernel
theorem dX8_mostOf_26 : decode cX8_mostOf 26 = .ok (.iload_n 1, 1) := by decide +kernel
theorem dX8_mostOf_27 : decode cX8_mostOf 27 = .ok (.iload_n 2, 1) := by decide +kernel
theorem dX8_mostOf_28 : decode cX8_mostOf 28 = .ok (.iload 4, 2) := by decide +kernel
theorem dX8_mostOf_30 : decode cX8_mostOf 30 = .ok (.invokevirtual 195, 3) := by decide +kernel
theorem dX8_mostOf_33 : decode cX8_mostOf 33 = .ok (.iload_n 3, 1) := by decide +kernel
theorem dX8_mostOf_34 : decode cX8_mostOf 34 = .ok (.if_icmp .le 12, 3) := by decide +kernel
theorem dX8_mostOf_37 : decode cX8_mostOf 37 = .ok (.aload_n 0, 1) := by decide +kernel
theorem dX8_mostOf_38 : decode cX8_mostOf 38 = .ok (.iload_n 1, 1) := by decide +kernel
theorem dX8_mostOf_39 : decode cX8_mostOf 39 = .ok (.iload_n 2, 1) := by decide +kernel
theorem dX8_mostOf_40 : decode cX8_mostOf 40 = .ok (.iload 4, 2) := by decide +kernel
theorem dX8_mostOf_42 : decode cX8_mostOf 42 = .ok (.invokevirtual 195, 3) := by decide +kernel
theorem dX8_mostOf_45 : decode cX8_mostOf 45 = .ok (.istore_n 3, 1) := by decide +kernel
theorem dX8_mostOf_46 : decode cX8_mostOf 46 = .ok (.iinc 4 1, 3) := by decide +kernel
theorem dX8_mostOf_49 : decode cX8_mostOf 49 = .ok (.goto (-44), 3) := by decide +kernel
theorem dX8_mostOf_52 : decode cX8_mostOf 52 = .ok (.iload_n 3, 1) := by decide +kernel
theorem dX8_mostOf_53 : decode cX8_mostOf 53 = .ok (.ireturn, 1) := by decide +kernel
theorem dX8_centre_0 : decode cX8_centre 0 = .ok (.aload_n 0, 1) := by decide +kernel
theorem dX8_centre_1 : decode cX8_centre 1 = .ok (.iconst 0, 1) := by decide +kernel
theorem dX8_centre_2 : decode cX8_centre 2 = .ok (.putfield 42, 3) := by decide +kernel
theorem dX8_centre_5 : decode cX8_centre 5 = .ok (.aload_n 0, 1) := by decide +kernel
theorem dX8_centre_6 : decode cX8_centre 6 = .ok (.iload_n 1, 1) := by decide +kernel
theorem dX8_centre_7 : decode cX8_centre 7 = .ok (.invokevirtual 192, 3) := by decide +kernel
theorem dX8_centre_10 : decode cX8_centre 10 = .ok (.ifCond .eq 12, 3) := by decide +kernel
theorem dX8_centre_13 : decode cX8_centre 13 = .ok (.iload_n 2, 1) := by decide +kernel
theorem dX8_centre_14 : decode cX8_centre 14 = .ok (.iconst 0, 1) := by decide +kernel
theorem dX8_centre_15 : decode cX8_centre 15 = .ok (.iconst 1, 1) := by decide +kernel
theorem dX8_centre_16 : decode cX8_centre 16 = .ok (.invokestatic 63, 3) := by decide +kernel
theorem dX8_centre_19 : decode cX8_centre 19 = .ok (.ifCond .ne 9, 3) := by decide +kernel
theorem dX8_centre_22 : decode cX8_centre 22 = .ok (.aload_n 0, 1) := by decide +kernel
theorem dX8_centre_23 : decode cX8_centre 23 = .ok (.iconst 1, 1) := by decide +kernel
theorem dX8_centre_24 : decode cX8_centre 24 = .ok (.invokevirtual 173, 3) := by decide +kernel
theorem dX8_centre_27 : decode cX8_centre 27 = .ok (.ireturn, 1) := by decide +kernel
theorem dX8_centre_28 : decode cX8_centre 28 = .ok (.aload_n 0, 1) := by decide +kernel
theorem dX8_centre_29 : decode cX8_centre 29 = .ok (.iload_n 1, 1) := by decide +kernel
theorem dX8_centre_30 : decode cX8_centre 30 = .ok (.invokevirtual 199, 3) := by decide +kernel
theorem dX8_centre_33 : decode cX8_centre 33 = .ok (.ifCond .ne 9, 3) := by decide +kernel
theorem dX8_centre_36 : decode cX8_centre 36 = .ok (.aload_n 0, 1) := by decide +kernel
theorem dX8_centre_37 : decode cX8_centre 37 = .ok (.iconst 5, 1) := by decide +kernel
theorem dX8_centre_38 : decode cX8_centre 38 = .ok (.invokevirtual 173, 3) := by decide +kernel
theorem dX8_centre_41 : decode cX8_centre 41 = .ok (.ireturn, 1) := by decide +kernel
theorem dX8_centre_42 : decode cX8_centre 42 = .ok (.iconst 0, 1) := by decide +kernel
theorem dX8_centre_43 : decode cX8_centre 43 = .ok (.istore_n 3, 1) := by decide +kernel
theorem dX8_centre_44 : decode cX8_centre 44 = .ok (.iconst 1, 1) := by decide +kernel
theorem dX8_centre_45 : decode cX8_centre 45 = .ok (.istore 4, 2) := by decide +kernel
theorem dX8_centre_47 : decode cX8_centre 47 = .ok (.iload 4, 2) := by decide +kernel
theorem dX8_centre_49 : decode cX8_centre 49 = .ok (.aload_n 0, 1) := by decide +kernel
theorem dX8_centre_50 : decode cX8_centre 50 = .ok (.iload_n 1, 1) := by decide +kernel
theorem dX8_centre_51 : decode cX8_centre 51 = .ok (.invokevirtual 113, 3) := by decide +kernel
theorem dX8_centre_54 : decode cX8_centre 54 = .ok (.if_icmp .ge 28, 3) := by decide +kernel
theorem dX8_centre_57 : decode cX8_centre 57 = .ok (.aload_n 0, 1) := by decide +kernel
theorem dX8_centre_58 : decode cX8_centre 58 = .ok (.iload_n 1, 1) := by decide +kernel
theorem dX8_centre_59 : decode cX8_centre 59 = .ok (.iload 4, 2) := by decide +kernel
theorem dX8_centre_61 : decode cX8_centre 61 = .ok (.invokevirtual 232, 3) := by decide +kernel
theorem dX8_centre_64 : decode cX8_centre 64 = .ok (.aload_n 0, 1) := by decide +kernel
theorem dX8_centre_65 : decode cX8_centre 65 = .ok (.iload_n 1, 1) := by decide +kernel
theorem dX8_centre_66 : decode cX8_centre 66 = .ok (.iload_n 3, 1) := by decide +kernel
theorem dX8_centre_67 : decode cX8_centre 67 = .ok (.invokevirtual 232, 3) := by decide +kernel
theorem dX8_centre_70 : decode cX8_centre 70 = .ok (.if_icmp .ge 6, 3) := by decide +kernel
theorem dX8_centre_73 : decode cX8_centre 73 = .ok (.iload 4, 2) := by decide +kernel
theorem dX8_centre_75 : decode cX8_centre 75 = .ok (.istore_n 3, 1) := by decide +kernel
theorem dX8_centre_76 : decode cX8_centre 76 = .ok (.iinc 4 1, 3) := by decide +kernel
theorem dX8_centre_79 : decode cX8_centre 79 = .ok (.goto (-32), 3) := by decide +kernel
theorem dX8_centre_82 : decode cX8_centre 82 = .ok (.aload_n 0, 1) := by decide +kernel
theorem dX8_centre_83 : decode cX8_centre 83 = .ok (.iload_n 2, 1) := by decide +kernel
theorem dX8_centre_84 : decode cX8_centre 84 = .ok (.ifCond .ne 7, 3) := by decide +kernel
theorem dX8_centre_87 : decode cX8_centre 87 = .ok (.iload_n 3, 1) := by decide +kernel
theorem dX8_centre_88 : decode cX8_centre 88 = .ok (.goto 9, 3) := by decide +kernel
theorem dX8_centre_91 : decode cX8_centre 91 = .ok (.aload_n 0, 1) := by decide +kernel
theorem dX8_centre_92 : decode cX8_centre 92 = .ok (.iload_n 1, 1) := by decide +kernel
theorem dX8_centre_93 : decode cX8_centre 93 = .ok (.iload_n 3, 1) := by decide +kernel
theorem dX8_centre_94 : decode cX8_centre 94 = .ok (.invokevirtual 232, 3) := by decide +kernel
theorem dX8_centre_97 : decode cX8_centre 97 = .ok (.invokevirtual 189, 3) := by decide +kernel
theorem dX8_centre_100 : decode cX8_centre 100 = .ok (.ireturn, 1) := by decide +kernel
theorem dX8_nearest_0 : decode cX8_nearest 0 = .ok (.aload_n 0, 1) := by decide +kernel
theorem dX8_nearest_1 : decode cX8_nearest 1 = .ok (.iconst 0, 1) := by decide +kernel
theorem dX8_nearest_2 : decode cX8_nearest 2 = .ok (.putfield 42, 3) := by decide +kernel
theorem dX8_nearest_5 : decode cX8_nearest 5 = .ok (.aload_n 0, 1) := by decide +kernel
theorem dX8_nearest_6 : decode cX8_nearest 6 = .ok (.iload_n 1, 1) := by decide +kernel
theorem dX8_nearest_7 : decode cX8_nearest 7 = .ok (.iload_n 2, 1) := by decide +kernel
theorem dX8_nearest_8 : decode cX8_nearest 8 = .ok (.invokevirtual 217, 3) := by decide +kernel
theorem dX8_nearest_11 : decode cX8_nearest 11 = .ok (.ifCond .ne 9, 3) := by decide +kernel
theorem dX8_nearest_14 : decode cX8_nearest 14 = .ok (.aload_n 0, 1) := by decide +kernel
theorem dX8_nearest_15 : decode cX8_nearest 15 = .ok (.iconst 1, 1) := by decide +kernel
theorem dX8_nearest_16 : decode cX8_nearest 16 = .ok (.invokevirtual 173, 3) := by decide +kernel
theorem dX8_nearest_19 : decode cX8_nearest 19 = .ok (.ireturn, 1) := by decide +kernel
theorem dX8_nearest_20 : decode cX8_nearest 20 = .ok (.iconst (-1), 1) := by decide +kernel
theorem dX8_nearest_21 : decode cX8_nearest 21 = .ok (.istore_n 3, 1) := by decide +kernel
theorem dX8_nearest_22 : decode cX8_nearest 22 = .ok (.iconst 0, 1) := by decide +kernel
theorem dX8_nearest_23 : decode cX8_nearest 23 = .ok (.istore 4, 2) := by decide +kernel
theorem dX8_nearest_25 : decode cX8_nearest 25 = .ok (.iload 4, 2) := by decide +kernel
theorem dX8_nearest_27 : decode cX8_nearest 27 = .ok (.aload_n 0, 1) := by decide +kernel
theorem dX8_nearest_28 : decode cX8_nearest 28 = .ok (.iload_n 1, 1) := by decide +kernel
theorem dX8_nearest_29 : decode cX8_nearest 29 = .ok (.invokevirtual 113, 3) := by decide +kernel
theorem dX8_nearest_32 : decode cX8_nearest 32 = .ok (.if_icmp .ge 45, 3) := by decide +kernel
theorem dX8_nearest_35 : decode cX8_nearest 35 = .ok (.aload_n 0, 1) := by decide +kernel
theorem dX8_nearest_36 : decode cX8_nearest 36 = .ok (.iload_n 1, 1) := by decide +kernel
theorem dX8_nearest_37 : decode cX8_nearest 37 = .ok (.iload 4, 2) := by decide +kernel
theorem dX8_nearest_39 : decode cX8_nearest 39 = .ok (.invokevirtual 116, 3) := by decide +kernel
theorem dX8_nearest_42 : decode cX8_nearest 42 = .ok (.ifCond .eq 29, 3) := by decide +kernel
theorem dX8_nearest_45 : decode cX8_nearest 45 = .ok (.iload_n 3, 1) := by decide +kernel
theorem dX8_nearest_46 : decode cX8_nearest 46 = .ok (.iconst (-1), 1) := by decide +kernel
theorem dX8_nearest_47 : decode cX8_nearest 47 = .ok (.if_icmp .eq 21, 3) := by decide +kernel
theorem dX8_nearest_50 : decode cX8_nearest 50 = .ok (.aload_n 0, 1) := by decide +kernel
theorem dX8_nearest_51 : decode cX8_nearest 51 = .ok (.iload_n 1, 1) := by decide +kernel
theorem dX8_nearest_52 : decode cX8_nearest 52 = .ok (.iload_n 2, 1) := by decide +kernel
theorem dX8_nearest_53 : decode cX8_nearest 53 = .ok (.iload 4, 2) := by decide +kernel
theorem dX8_nearest_55 : decode cX8_nearest 55 = .ok (.invokevirtual 195, 3) := by decide +kernel
theorem dX8_nearest_58 : decode cX8_nearest 58 = .ok (.aload_n 0, 1) := by decide +kernel
theorem dX8_nearest_59 : decode cX8_nearest 59 = .ok (.iload_n 1, 1) := by decide +kernel
theorem dX8_nearest_60 : decode cX8_nearest 60 = .ok (.iload_n 2, 1) := by decide +kernel
theorem dX8_nearest_61 : decode cX8_nearest 61 = .ok (.iload_n 3, 1) := by decide +kernel
theorem dX8_nearest_62 : decode cX8_nearest 62 = .ok (.invokevirtual 195, 3) := by decide +kernel
theorem dX8_nearest_65 : decode cX8_nearest 65 = .ok (.if_icmp .ge 6, 3) := by decide +kernel
theorem dX8_nearest_68 : decode cX8_nearest 68 = .ok (.iload 4, 2) := by decide +kernel
theorem dX8_nearest_70 : decode cX8_nearest 70 = .ok (.istore_n 3, 1) := by decide +kernel
theorem dX8_nearest_71 : decode cX8_nearest 71 = .ok (.iinc 4 1, 3) := by decide +kernel
theorem dX8_nearest_74 : decode cX8_nearest 74 = .ok (.goto (-49), 3) := by decide +kernel
theorem dX8_nearest_77 : decode cX8_nearest 77 = .ok (.iload_n 3, 1) := by decide +kernel
theorem dX8_nearest_78 : decode cX8_nearest 78 = .ok (.iconst (-1), 1) := by decide +kernel
theorem dX8_nearest_79 : decode cX8_nearest 79 = .ok (.if_icmp .ne 11, 3) := by decide +kernel
theorem dX8_nearest_82 : decode cX8_nearest 82 = .ok (.aload_n 0, 1) := by decide +kernel
theorem dX8_nearest_83 : decode cX8_nearest 83 = .ok (.iconst 5, 1) := by decide +kernel
theorem dX8_nearest_84 : decode cX8_nearest 84 = .ok (.invokevirtual 173, 3) := by decide +kernel
theorem dX8_nearest_87 : decode cX8_nearest 87 = .ok (.goto 8, 3) := by decide +kernel
theorem dX8_nearest_90 : decode cX8_nearest 90 = .ok (.aload_n 0, 1) := by decide +kernel
theorem dX8_nearest_91 : decode cX8_nearest 91 = .ok (.iload_n 3, 1) := by decide +kernel
theorem dX8_nearest_92 : decode cX8_nearest 92 = .ok (.invokevirtual 189, 3) := by decide +kernel
theorem dX8_nearest_95 : decode cX8_nearest 95 = .ok (.ireturn, 1) := by decide +kernel
theorem dX8_ring_0 : decode cX8_ring 0 = .ok (.aload_n 0, 1) := by decide +kernel
theorem dX8_ring_1 : decode cX8_ring 1 = .ok (.iconst 0, 1) := by decide +kernel
theorem dX8_ring_2 : decode cX8_ring 2 = .ok (.putfield 42, 3) := by decide +kernel
theorem dX8_ring_5 : decode cX8_ring 5 = .ok (.aload_n 0, 1) := by decide +kernel
theorem dX8_ring_6 : decode cX8_ring 6 = .ok (.iload_n 1, 1) := by decide +kernel
theorem dX8_ring_7 : decode cX8_ring 7 = .ok (.iload_n 2, 1) := by decide +kernel
theorem dX8_ring_8 : decode cX8_ring 8 = .ok (.invokevirtual 217, 3) := by decide +kernel
theorem dX8_ring_11 : decode cX8_ring 11 = .ok (.ifCond .ne 9, 3) := by decide +kernel
theorem dX8_ring_14 : decode cX8_ring 14 = .ok (.aload_n 0, 1) := by decide +kernel
theorem dX8_ring_15 : decode cX8_ring 15 = .ok (.iconst 1, 1) := by decide +kernel
theorem dX8_ring_16 : decode cX8_ring 16 = .ok (.invokevirtual 173, 3) := by decide +kernel
theorem dX8_ring_19 : decode cX8_ring 19 = .ok (.ireturn, 1) := by decide +kernel
theorem dX8_ring_20 : decode cX8_ring 20 = .ok (.iload_n 3, 1) := by decide +kernel
theorem dX8_ring_21 : decode cX8_ring 21 = .ok (.ifCond .ge 9, 3) := by decide +kernel
theorem dX8_ring_24 : decode cX8_ring 24 = .ok (.aload_n 0, 1) := by decide +kernel
theorem dX8_ring_25 : decode cX8_ring 25 = .ok (.iconst 2, 1) := by decide +kernel
theorem dX8_ring_26 : decode cX8_ring 26 = .ok (.invokevirtual 173, 3) := by decide +kernel
theorem dX8_ring_29 : decode cX8_ring 29 = .ok (.ireturn, 1) := by decide +kernel
theorem dX8_ring_30 : decode cX8_ring 30 = .ok (.iconst 0, 1) := by decide +kernel
theorem dX8_ring_31 : decode cX8_ring 31 = .ok (.istore 4, 2) := by decide +kernel
theorem dX8_ring_33 : decode cX8_ring 33 = .ok (.iconst 0, 1) := by decide +kernel
theorem dX8_ring_34 : decode cX8_ring 34 = .ok (.istore 5, 2) := by decide +kernel
theorem dX8_ring_36 : decode cX8_ring 36 = .ok (.iload 5, 2) := by decide +kernel
theorem dX8_ring_38 : decode cX8_ring 38 = .ok (.aload_n 0, 1) := by decide +kernel
theorem dX8_ring_39 : decode cX8_ring 39 = .ok (.iload_n 1, 1) := by decide +kernel
theorem dX8_ring_40 : decode cX8_ring 40 = .ok (.invokevirtual 113, 3) := by decide +kernel
theorem dX8_ring_43 : decode cX8_ring 43 = .ok (.if_icmp .ge 41, 3) := by decide +kernel
theorem dX8_ring_46 : decode cX8_ring 46 = .ok (.iload 4, 2) := by decide +kernel
theorem dX8_ring_48 : decode cX8_ring 48 = .ok (.aload_n 0, 1) := by decide +kernel
theorem dX8_ring_49 : decode cX8_ring 49 = .ok (.iload_n 1, 1) := by decide +kernel
theorem dX8_ring_50 : decode cX8_ring 50 = .ok (.iload 5, 2) := by decide +kernel
theorem dX8_ring_52 : decode cX8_ring 52 = .ok (.invokevirtual 116, 3) := by decide +kernel
theorem dX8_ring_55 : decode cX8_ring 55 = .ok (.ifCond .eq 19, 3) := by decide +kernel
theorem dX8_ring_58 : decode cX8_ring 58 = .ok (.aload_n 0, 1) := by decide +kernel
theorem dX8_ring_59 : decode cX8_ring 59 = .ok (.iload_n 1, 1) := by decide +kernel
theorem dX8_ring_60 : decode cX8_ring 60 = .ok (.iload_n 2, 1) := by decide +kernel
theorem dX8_ring_61 : decode cX8_ring 61 = .ok (.iload 5, 2) := by decide +kernel
theorem dX8_ring_63 : decode cX8_ring 63 = .ok (.invokevirtual 195, 3) := by decide +kernel
theorem dX8_ring_66 : decode cX8_ring 66 = .ok (.iload_n 3, 1) := by decide +kernel
theorem dX8_ring_67 : decode cX8_ring 67 = .ok (.if_icmp .ne 7, 3) := by decide +kernel
theorem dX8_ring_70 : decode cX8_ring 70 = .ok (.iconst 1, 1) := by decide +kernel
theorem dX8_ring_71 : decode cX8_ring 71 = .ok (.goto 4, 3) := by decide +kernel
theorem dX8_ring_74 : decode cX8_ring 74 = .ok (.iconst 0, 1) := by decide +kernel
theorem dX8_ring_75 : decode cX8_ring 75 = .ok (.iadd, 1) := by decide +kernel
theorem dX8_ring_76 : decode cX8_ring 76 = .ok (.istore 4, 2) := by decide +kernel
theorem dX8_ring_78 : decode cX8_ring 78 = .ok (.iinc 5 1, 3) := by decide +kernel
theorem dX8_ring_81 : decode cX8_ring 81 = .ok (.goto (-45), 3) := by decide +kernel
theorem dX8_ring_84 : decode cX8_ring 84 = .ok (.aload_n 0, 1) := by decide +kernel
theorem dX8_ring_85 : decode cX8_ring 85 = .ok (.iload 4, 2) := by decide +kernel
theorem dX8_ring_87 : decode cX8_ring 87 = .ok (.invokevirtual 189, 3) := by decide +kernel
theorem dX8_ring_90 : decode cX8_ring 90 = .ok (.ireturn, 1) := by decide +kernel
theorem dX8_column_0 : decode cX8_column 0 = .ok (.aload_n 0, 1) := by decide +kernel
theorem dX8_column_1 : decode cX8_column 1 = .ok (.iconst 0, 1) := by decide +kernel
theorem dX8_column_2 : decode cX8_column 2 = .ok (.putfield 42, 3) := by decide +kernel
theorem dX8_column_5 : decode cX8_column 5 = .ok (.aload_n 0, 1) := by decide +kernel
theorem dX8_column_6 : decode cX8_column 6 = .ok (.iload_n 1, 1) := by decide +kernel
theorem dX8_column_7 : decode cX8_column 7 = .ok (.iload_n 2, 1) := by decide +kernel
theorem dX8_column_8 : decode cX8_column 8 = .ok (.invokevirtual 214, 3) := by decide +kernel
theorem dX8_column_11 : decode cX8_column 11 = .ok (.ifCond .ne 9, 3) := by decide +kernel
theorem dX8_column_14 : decode cX8_column 14 = .ok (.aload_n 0, 1) := by decide +kernel
theorem dX8_column_15 : decode cX8_column 15 = .ok (.iconst 1, 1) := by decide +kernel
theorem dX8_column_16 : decode cX8_column 16 = .ok (.invokevirtual 173, 3) := by decide +kernel
theorem dX8_column_19 : decode cX8_column 19 = .ok (.ireturn, 1) := by decide +kernel
theorem dX8_column_20 : decode cX8_column 20 = .ok (.iload_n 3, 1) := by decide +kernel
theorem dX8_column_21 : decode cX8_column 21 = .ok (.iconst 0, 1) := by decide +kernel
theorem dX8_column_22 : decode cX8_column 22 = .ok (.aload_n 0, 1) := by decide +kernel
theorem dX8_column_23 : decode cX8_column 23 = .ok (.iload_n 1, 1) := by decide +kernel
theorem dX8_column_24 : decode cX8_column 24 = .ok (.iload_n 2, 1) := by decide +kernel
theorem dX8_column_25 : decode cX8_column 25 = .ok (.invokevirtual 109, 3) := by decide +kernel
theorem dX8_column_28 : decode cX8_column 28 = .ok (.iconst 1, 1) := by decide +kernel
theorem dX8_column_29 : decode cX8_column 29 = .ok (.isub, 1) := by decide +kernel
theorem dX8_column_30 : decode cX8_column 30 = .ok (.invokestatic 63, 3) := by decide +kernel
theorem dX8_column_33 : decode cX8_column 33 = .ok (.ifCond .ne 9, 3) := by decide +kernel
theorem dX8_column_36 : decode cX8_column 36 = .ok (.aload_n 0, 1) := by decide +kernel
theorem dX8_column_37 : decode cX8_column 37 = .ok (.iconst 2, 1) := by decide +kernel
theorem dX8_column_38 : decode cX8_column 38 = .ok (.invokevirtual 173, 3) := by decide +kernel
theorem dX8_column_41 : decode cX8_column 41 = .ok (.ireturn, 1) := by decide +kernel
theorem dX8_column_42 : decode cX8_column 42 = .ok (.iconst 0, 1) := by decide +kernel
theorem dX8_column_43 : decode cX8_column 43 = .ok (.istore 4, 2) := by decide +kernel
theorem dX8_column_45 : decode cX8_column 45 = .ok (.iconst 0, 1) := by decide +kernel
theorem dX8_column_46 : decode cX8_column 46 = .ok (.istore 5, 2) := by decide +kernel
theorem dX8_column_48 : decode cX8_column 48 = .ok (.iload 5, 2) := by decide +kernel
theorem dX8_column_50 : decode cX8_column 50 = .ok (.aload_n 0, 1) := by decide +kernel
theorem dX8_column_51 : decode cX8_column 51 = .ok (.iload_n 1, 1) := by decide +kernel
theorem dX8_column_52 : decode cX8_column 52 = .ok (.invokevirtual 113, 3) := by decide +kernel
theorem dX8_column_55 : decode cX8_column 55 = .ok (.if_icmp .ge 41, 3) := by decide +kernel
theorem dX8_column_58 : decode cX8_column 58 = .ok (.iload 4, 2) := by decide +kernel
theorem dX8_column_60 : decode cX8_column 60 = .ok (.aload_n 0, 1) := by decide +kernel
theorem dX8_column_61 : decode cX8_column 61 = .ok (.iload_n 1, 1) := by decide +kernel
theorem dX8_column_62 : decode cX8_column 62 = .ok (.iload 5, 2) := by decide +kernel
theorem dX8_column_64 : decode cX8_column 64 = .ok (.invokevirtual 116, 3) := by decide +kernel
theorem dX8_column_67 : decode cX8_column 67 = .ok (.ifCond .eq 19, 3) := by decide +kernel
theorem dX8_column_70 : decode cX8_column 70 = .ok (.aload_n 0, 1) := by decide +kernel
theorem dX8_column_71 : decode cX8_column 71 = .ok (.iload_n 1, 1) := by decide +kernel
theorem dX8_column_72 : decode cX8_column 72 = .ok (.iload 5, 2) := by decide +kernel
theorem dX8_column_74 : decode cX8_column 74 = .ok (.iload_n 2, 1) := by decide +kernel
theorem dX8_column_75 : decode cX8_column 75 = .ok (.invokevirtual 220, 3) := by decide +kernel
theorem dX8_column_78 : decode cX8_column 78 = .ok (.iload_n 3, 1) := by decide +kernel
theorem dX8_column_79 : decode cX8_column 79 = .ok (.if_icmp .ne 7, 3) := by decide +kernel
theorem dX8_column_82 : decode cX8_column 82 = .ok (.iconst 1, 1) := by decide +kernel
theorem dX8_column_83 : decode cX8_column 83 = .ok (.goto 4, 3) := by decide +kernel
theorem dX8_column_86 : decode cX8_column 86 = .ok (.iconst 0, 1) := by decide +kernel
theorem dX8_column_87 : decode cX8_column 87 = .ok (.iadd, 1) := by decide +kernel
theorem dX8_column_88 : decode cX8_column 88 = .ok (.istore 4, 2) := by decide +kernel
theorem dX8_column_90 : decode cX8_column 90 = .ok (.iinc 5 1, 3) := by decide +kernel
theorem dX8_column_93 : decode cX8_column 93 = .ok (.goto (-45), 3) := by decide +kernel
theorem dX8_column_96 : decode cX8_column 96 = .ok (.aload_n 0, 1) := by decide +kernel
theorem dX8_column_97 : decode cX8_column 97 = .ok (.iload 4, 2) := by decide +kernel
theorem dX8_column_99 : decode cX8_column 99 = .ok (.invokevirtual 189, 3) := by decide +kernel
theorem dX8_column_102 : decode cX8_column 102 = .ok (.ireturn, 1) := by decide +kernel
theorem dX8_worth_0 : decode cX8_worth 0 = .ok (.aload_n 0, 1) := by decide +kernel
theorem dX8_worth_1 : decode cX8_worth 1 = .ok (.iconst 0, 1) := by decide +kernel
theorem dX8_worth_2 : decode cX8_worth 2 = .ok (.putfield 42, 3) := by decide +kernel
theorem dX8_worth_5 : decode cX8_worth 5 = .ok (.aload_n 0, 1) := by decide +kernel
theorem dX8_worth_6 : decode cX8_worth 6 = .ok (.iload_n 1, 1) := by decide +kernel
theorem dX8_worth_7 : decode cX8_worth 7 = .ok (.iload_n 2, 1) := by decide +kernel
theorem dX8_worth_8 : decode cX8_worth 8 = .ok (.invokevirtual 217, 3) := by decide +kernel
theorem dX8_worth_11 : decode cX8_worth 11 = .ok (.ifCond .ne 9, 3) := by decide +kernel
theorem dX8_worth_14 : decode cX8_worth 14 = .ok (.aload_n 0, 1) := by decide +kernel
theorem dX8_worth_15 : decode cX8_worth 15 = .ok (.iconst 1, 1) := by decide +kernel
theorem dX8_worth_16 : decode cX8_worth 16 = .ok (.invokevirtual 173, 3) := by decide +kernel
theorem dX8_worth_19 : decode cX8_worth 19 = .ok (.ireturn, 1) := by decide +kernel
theorem dX8_worth_20 : decode cX8_worth 20 = .ok (.iload_n 3, 1) := by decide +kernel
theorem dX8_worth_21 : decode cX8_worth 21 = .ok (.invokestatic 223, 3) := by decide +kernel
theorem dX8_worth_24 : decode cX8_worth 24 = .ok (.ifCond .ne 9, 3) := by decide +kernel
theorem dX8_worth_27 : decode cX8_worth 27 = .ok (.aload_n 0, 1) := by decide +kernel
theorem dX8_worth_28 : decode cX8_worth 28 = .ok (.iconst 2, 1) := by decide +kernel
theorem dX8_worth_29 : decode cX8_worth 29 = .ok (.invokevirtual 173, 3) := by decide +kernel
theorem dX8_worth_32 : decode cX8_worth 32 = .ok (.ireturn, 1) := by decide +kernel
theorem dX8_worth_33 : decode cX8_worth 33 = .ok (.aload_n 0, 1) := by decide +kernel
theorem dX8_worth_34 : decode cX8_worth 34 = .ok (.iload_n 1, 1) := by decide +kernel
theorem dX8_worth_35 : decode cX8_worth 35 = .ok (.iload_n 2, 1) := by decide +kernel
theorem dX8_worth_36 : decode cX8_worth 36 = .ok (.invokevirtual 116, 3) := by decide +kernel
theorem dX8_worth_39 : decode cX8_worth 39 = .ok (.ifCond .ne 9, 3) := by decide +kernel
theorem dX8_worth_42 : decode cX8_worth 42 = .ok (.aload_n 0, 1) := by decide +kernel
theorem dX8_worth_43 : decode cX8_worth 43 = .ok (.iconst 5, 1) := by decide +kernel
theorem dX8_worth_44 : decode cX8_worth 44 = .ok (.invokevirtual 173, 3) := by decide +kernel
theorem dX8_worth_47 : decode cX8_worth 47 = .ok (.ireturn, 1) := by decide +kernel
theorem dX8_worth_48 : decode cX8_worth 48 = .ok (.aload_n 0, 1) := by decide +kernel
theorem dX8_worth_49 : decode cX8_worth 49 = .ok (.iload_n 1, 1) := by decide +kernel
theorem dX8_worth_50 : decode cX8_worth 50 = .ok (.iload_n 3, 1) := by decide +kernel
theorem dX8_worth_51 : decode cX8_worth 51 = .ok (.invokevirtual 202, 3) := by decide +kernel
theorem dX8_worth_54 : decode cX8_worth 54 = .ok (.istore 4, 2) := by decide +kernel
theorem dX8_worth_56 : decode cX8_worth 56 = .ok (.iconst 0, 1) := by decide +kernel
theorem dX8_worth_57 : decode cX8_worth 57 = .ok (.istore 4, 2) := by decide +kernel
theorem dX8_worth_59 : decode cX8_worth 59 = .ok (.iconst 0, 1) := by decide +kernel
theorem dX8_worth_60 : decode cX8_worth 60 = .ok (.istore 5, 2) := by decide +kernel
theorem dX8_worth_62 : decode cX8_worth 62 = .ok (.iload 5, 2) := by decide +kernel
theorem dX8_worth_64 : decode cX8_worth 64 = .ok (.aload_n 0, 1) := by decide +kernel
theorem dX8_worth_65 : decode cX8_worth 65 = .ok (.iload_n 1, 1) := by decide +kernel
theorem dX8_worth_66 : decode cX8_worth 66 = .ok (.invokevirtual 113, 3) := by decide +kernel
theorem dX8_worth_69 : decode cX8_worth 69 = .ok (.if_icmp .ge 42, 3) := by decide +kernel
theorem dX8_worth_72 : decode cX8_worth 72 = .ok (.iload 4, 2) := by decide +kernel
theorem dX8_worth_74 : decode cX8_worth 74 = .ok (.aload_n 0, 1) := by decide +kernel
theorem dX8_worth_75 : decode cX8_worth 75 = .ok (.getfield 30, 3) := by decide +kernel
theorem dX8_worth_78 : decode cX8_worth 78 = .ok (.iload 5, 2) := by decide +kernel
theorem dX8_worth_80 : decode cX8_worth 80 = .ok (.iaload, 1) := by decide +kernel
theorem dX8_worth_81 : decode cX8_worth 81 = .ok (.iconst 1, 1) := by decide +kernel
theorem dX8_worth_82 : decode cX8_worth 82 = .ok (.if_icmp .ne 19, 3) := by decide +kernel
theorem dX8_worth_85 : decode cX8_worth 85 = .ok (.aload_n 0, 1) := by decide +kernel
theorem dX8_worth_86 : decode cX8_worth 86 = .ok (.iload_n 1, 1) := by decide +kernel
theorem dX8_worth_87 : decode cX8_worth 87 = .ok (.iload_n 2, 1) := by decide +kernel
theorem dX8_worth_88 : decode cX8_worth 88 = .ok (.iload 5, 2) := by decide +kernel
theorem dX8_worth_90 : decode cX8_worth 90 = .ok (.invokevirtual 195, 3) := by decide +kernel
theorem dX8_worth_93 : decode cX8_worth 93 = .ok (.iload_n 3, 1) := by decide +kernel
theorem dX8_worth_94 : decode cX8_worth 94 = .ok (.if_icmp .gt 7, 3) := by decide +kernel
theorem dX8_worth_97 : decode cX8_worth 97 = .ok (.iconst 1, 1) := by decide +kernel
theorem dX8_worth_98 : decode cX8_worth 98 = .ok (.goto 4, 3) := by decide +kernel
theorem dX8_worth_101 : decode cX8_worth 101 = .ok (.iconst 0, 1) := by decide +kernel
theorem dX8_worth_102 : decode cX8_worth 102 = .ok (.iadd, 1) := by decide +kernel
theorem dX8_worth_103 : decode cX8_worth 103 = .ok (.istore 4, 2) := by decide +kernel
theorem dX8_worth_105 : decode cX8_worth 105 = .ok (.iinc 5 1, 3) := by decide +kernel
theorem dX8_worth_108 : decode cX8_worth 108 = .ok (.goto (-46), 3) := by decide +kernel
theorem dX8_worth_111 : decode cX8_worth 111 = .ok (.aload_n 0, 1) := by decide +kernel
theorem dX8_worth_112 : decode cX8_worth 112 = .ok (.iload 4, 2) := by decide +kernel
theorem dX8_worth_114 : decode cX8_worth 114 = .ok (.invokevirtual 189, 3) := by decide +kernel
theorem dX8_worth_117 : decode cX8_worth 117 = .ok (.ireturn, 1) := by decide +kernel
theorem dX8_bits_0 : decode cX8_bits 0 = .ok (.lload_n 0, 1) := by decide +kernel
theorem dX8_bits_1 : decode cX8_bits 1 = .ok (.invokestatic 235, 3) := by decide +kernel
theorem dX8_bits_4 : decode cX8_bits 4 = .ok (.lload_n 2, 1) := by decide +kernel
theorem dX8_bits_5 : decode cX8_bits 5 = .ok (.invokestatic 235, 3) := by decide +kernel
theorem dX8_bits_8 : decode cX8_bits 8 = .ok (.iadd, 1) := by decide +kernel
theorem dX8_bits_9 : decode cX8_bits 9 = .ok (.ireturn, 1) := by decide +kernel
theorem dX8_seeks_0 : decode cX8_seeks 0 = .ok (.aload_n 0, 1) := by decide +kernel
theorem dX8_seeks_1 : decode cX8_seeks 1 = .ok (.getfield 241, 3) := by decide +kernel
theorem dX8_seeks_4 : decode cX8_seeks 4 = .ok (.lload_n 3, 1) := by decide +kernel
theorem dX8_seeks_5 : decode cX8_seeks 5 = .ok (.lload 5, 2) := by decide +kernel
theorem dX8_seeks_7 : decode cX8_seeks 7 = .ok (.invokestatic 244, 3) := by decide +kernel
theorem dX8_seeks_10 : decode cX8_seeks 10 = .ok (.isub, 1) := by decide +kernel
theorem dX8_seeks_11 : decode cX8_seeks 11 = .ok (.istore 7, 2) := by decide +kernel
theorem dX8_seeks_13 : decode cX8_seeks 13 = .ok (.iload 7, 2) := by decide +kernel
theorem dX8_seeks_15 : decode cX8_seeks 15 = .ok (.ifCond .ne 5, 3) := by decide +kernel
theorem dX8_seeks_18 : decode cX8_seeks 18 = .ok (.iconst 1, 1) := by decide +kernel
theorem dX8_seeks_19 : decode cX8_seeks 19 = .ok (.ireturn, 1) := by decide +kernel
theorem dX8_seeks_20 : decode cX8_seeks 20 = .ok (.iload_n 2, 1) := by decide +kernel
theorem dX8_seeks_21 : decode cX8_seeks 21 = .ok (.ifCond .eq 14, 3) := by decide +kernel
theorem dX8_seeks_24 : decode cX8_seeks 24 = .ok (.iload_n 2, 1) := by decide +kernel
theorem dX8_seeks_25 : decode cX8_seeks 25 = .ok (.aload_n 0, 1) := by decide +kernel
theorem dX8_seeks_26 : decode cX8_seeks 26 = .ok (.getfield 248, 3) := by decide +kernel
theorem dX8_seeks_29 : decode cX8_seeks 29 = .ok (.imul, 1) := by decide +kernel
theorem dX8_seeks_30 : decode cX8_seeks 30 = .ok (.iload 7, 2) := by decide +kernel
theorem dX8_seeks_32 : decode cX8_seeks 32 = .ok (.if_icmp .ge 5, 3) := by decide +kernel
theorem dX8_seeks_35 : decode cX8_seeks 35 = .ok (.iconst 0, 1) := by decide +kernel
theorem dX8_seeks_36 : decode cX8_seeks 36 = .ok (.ireturn, 1) := by decide +kernel
theorem dX8_seeks_37 : decode cX8_seeks 37 = .ok (.iconst 0, 1) := by decide +kernel
theorem dX8_seeks_38 : decode cX8_seeks 38 = .ok (.istore 8, 2) := by decide +kernel
theorem dX8_seeks_40 : decode cX8_seeks 40 = .ok (.iload 8, 2) := by decide +kernel
theorem dX8_seeks_42 : decode cX8_seeks 42 = .ok (.bipush 64, 2) := by decide +kernel
theorem dX8_seeks_44 : decode cX8_seeks 44 = .ok (.if_icmp .ge 17, 3) := by decide +kernel
theorem dX8_seeks_47 : decode cX8_seeks 47 = .ok (.lload_n 3, 1) := by decide +kernel
theorem dX8_seeks_48 : decode cX8_seeks 48 = .ok (.iload 8, 2) := by decide +kernel
theorem dX8_seeks_50 : decode cX8_seeks 50 = .ok (.lshr, 1) := by decide +kernel
theorem dX8_seeks_51 : decode cX8_seeks 51 = .ok (.lconst 1, 1) := by decide +kernel
theorem dX8_seeks_52 : decode cX8_seeks 52 = .ok (.land, 1) := by decide +kernel
theorem dX8_seeks_53 : decode cX8_seeks 53 = .ok (.lconst 1, 1) := by decide +kernel
theorem dX8_seeks_54 : decode cX8_seeks 54 = .ok (.lcmp, 1) := by decide +kernel
theorem dX8_seeks_55 : decode cX8_seeks 55 = .ok (.ifCond .ne 27, 3) := by decide +kernel
theorem dX8_seeks_58 : decode cX8_seeks 58 = .ok (.goto 18, 3) := by decide +kernel
theorem dX8_seeks_61 : decode cX8_seeks 61 = .ok (.lload 5, 2) := by decide +kernel
theorem dX8_seeks_63 : decode cX8_seeks 63 = .ok (.iload 8, 2) := by decide +kernel
theorem dX8_seeks_65 : decode cX8_seeks 65 = .ok (.bipush 64, 2) := by decide +kernel
theorem dX8_seeks_67 : decode cX8_seeks 67 = .ok (.isub, 1) := by decide +kernel
theorem dX8_seeks_68 : decode cX8_seeks 68 = .ok (.lshr, 1) := by decide +kernel
theorem dX8_seeks_69 : decode cX8_seeks 69 = .ok (.lconst 1, 1) := by decide +kernel
theorem dX8_seeks_70 : decode cX8_seeks 70 = .ok (.land, 1) := by decide +kernel
theorem dX8_seeks_71 : decode cX8_seeks 71 = .ok (.lconst 1, 1) := by decide +kernel
theorem dX8_seeks_72 : decode cX8_seeks 72 = .ok (.lcmp, 1) := by decide +kernel
theorem dX8_seeks_73 : decode cX8_seeks 73 = .ok (.ifCond .ne 9, 3) := by decide +kernel
theorem dX8_seeks_76 : decode cX8_seeks 76 = .ok (.iinc 8 1, 3) := by decide +kernel
theorem dX8_seeks_79 : decode cX8_seeks 79 = .ok (.goto (-39), 3) := by decide +kernel
theorem dX8_seeks_82 : decode cX8_seeks 82 = .ok (.iconst 0, 1) := by decide +kernel
theorem dX8_seeks_83 : decode cX8_seeks 83 = .ok (.istore 9, 2) := by decide +kernel
theorem dX8_seeks_85 : decode cX8_seeks 85 = .ok (.iload 9, 2) := by decide +kernel
theorem dX8_seeks_87 : decode cX8_seeks 87 = .ok (.aload_n 0, 1) := by decide +kernel
theorem dX8_seeks_88 : decode cX8_seeks 88 = .ok (.getfield 241, 3) := by decide +kernel
theorem dX8_seeks_91 : decode cX8_seeks 91 = .ok (.if_icmp .ge 183, 3) := by decide +kernel
theorem dX8_seeks_94 : decode cX8_seeks 94 = .ok (.iload 8, 2) := by decide +kernel
theorem dX8_seeks_96 : decode cX8_seeks 96 = .ok (.bipush 64, 2) := by decide +kernel
theorem dX8_seeks_98 : decode cX8_seeks 98 = .ok (.if_icmp .ge 28, 3) := by decide +kernel
theorem dX8_seeks_101 : decode cX8_seeks 101 = .ok (.aload_n 0, 1) := by decide +kernel
theorem dX8_seeks_102 : decode cX8_seeks 102 = .ok (.getfield 33, 3) := by decide +kernel
theorem dX8_seeks_105 : decode cX8_seeks 105 = .ok (.iload 9, 2) := by decide +kernel
theorem dX8_seeks_107 : decode cX8_seeks 107 = .ok (.laload, 1) := by decide +kernel
theorem dX8_seeks_108 : decode cX8_seeks 108 = .ok (.iload 8, 2) := by decide +kernel
theorem dX8_seeks_110 : decode cX8_seeks 110 = .ok (.lshr, 1) := by decide +kernel
theorem dX8_seeks_111 : decode cX8_seeks 111 = .ok (.lconst 1, 1) := by decide +kernel
theorem dX8_seeks_112 : decode cX8_seeks 112 = .ok (.land, 1) := by decide +kernel
theorem dX8_seeks_113 : decode cX8_seeks 113 = .ok (.lconst 1, 1) := by decide +kernel
theorem dX8_seeks_114 : decode cX8_seeks 114 = .ok (.lcmp, 1) := by decide +kernel
theorem dX8_seeks_115 : decode cX8_seeks 115 = .ok (.ifCond .ne 7, 3) := by decide +kernel
theorem dX8_seeks_118 : decode cX8_seeks 118 = .ok (.iconst 1, 1) := by decide +kernel
theorem dX8_seeks_119 : decode cX8_seeks 119 = .ok (.goto 32, 3) := by decide +kernel
theorem dX8_seeks_122 : decode cX8_seeks 122 = .ok (.iconst 0, 1) := by decide +kernel
theorem dX8_seeks_123 : decode cX8_seeks 123 = .ok (.goto 28, 3) := by decide +kernel
theorem dX8_seeks_126 : decode cX8_seeks 126 = .ok (.aload_n 0, 1) := by decide +kernel
theorem dX8_seeks_127 : decode cX8_seeks 127 = .ok (.getfield 36, 3) := by decide +kernel
theorem dX8_seeks_130 : decode cX8_seeks 130 = .ok (.iload 9, 2) := by decide +kernel
theorem dX8_seeks_132 : decode cX8_seeks 132 = .ok (.laload, 1) := by decide +kernel
theorem dX8_seeks_133 : decode cX8_seeks 133 = .ok (.iload 8, 2) := by decide +kernel
theorem dX8_seeks_135 : decode cX8_seeks 135 = .ok (.bipush 64, 2) := by decide +kernel
theorem dX8_seeks_137 : decode cX8_seeks 137 = .ok (.isub, 1) := by decide +kernel
theorem dX8_seeks_138 : decode cX8_seeks 138 = .ok (.lshr, 1) := by decide +kernel
theorem dX8_seeks_139 : decode cX8_seeks 139 = .ok (.lconst 1, 1) := by decide +kernel
theorem dX8_seeks_140 : decode cX8_seeks 140 = .ok (.land, 1) := by decide +kernel
theorem dX8_seeks_141 : decode cX8_seeks 141 = .ok (.lconst 1, 1) := by decide +kernel
theorem dX8_seeks_142 : decode cX8_seeks 142 = .ok (.lcmp, 1) := by decide +kernel
theorem dX8_seeks_143 : decode cX8_seeks 143 = .ok (.ifCond .ne 7, 3) := by decide +kernel
theorem dX8_seeks_146 : decode cX8_seeks 146 = .ok (.iconst 1, 1) := by decide +kernel
theorem dX8_seeks_147 : decode cX8_seeks 147 = .ok (.goto 4, 3) := by decide +kernel
theorem dX8_seeks_150 : decode cX8_seeks 150 = .ok (.iconst 0, 1) := by decide +kernel
theorem dX8_seeks_151 : decode cX8_seeks 151 = .ok (.istore 10, 2) := by decide +kernel
theorem dX8_seeks_153 : decode cX8_seeks 153 = .ok (.iload 10, 2) := by decide +kernel
theorem dX8_seeks_155 : decode cX8_seeks 155 = .ok (.ifCond .ne 6, 3) := by decide +kernel
theorem dX8_seeks_158 : decode cX8_seeks 158 = .ok (.goto 110, 3) := by decide +kernel
theorem dX8_seeks_161 : decode cX8_seeks 161 = .ok (.aload_n 0, 1) := by decide +kernel
theorem dX8_seeks_162 : decode cX8_seeks 162 = .ok (.getfield 251, 3) := by decide +kernel
theorem dX8_seeks_165 : decode cX8_seeks 165 = .ok (.ldc 254, 2) := by decide +kernel
theorem dX8_seeks_167 : decode cX8_seeks 167 = .ok (.if_icmp .ne 5, 3) := by decide +kernel
theorem dX8_seeks_170 : decode cX8_seeks 170 = .ok (.iconst 0, 1) := by decide +kernel
theorem dX8_seeks_171 : decode cX8_seeks 171 = .ok (.ireturn, 1) := by decide +kernel
theorem dX8_seeks_172 : decode cX8_seeks 172 = .ok (.aload_n 0, 1) := by decide +kernel
theorem dX8_seeks_173 : decode cX8_seeks 173 = .ok (.dup, 1) := by decide +kernel
theorem dX8_seeks_174 : decode cX8_seeks 174 = .ok (.getfield 251, 3) := by decide +kernel
theorem dX8_seeks_177 : decode cX8_seeks 177 = .ok (.iconst 1, 1) := by decide +kernel
theorem dX8_seeks_178 : decode cX8_seeks 178 = .ok (.iadd, 1) := by decide +kernel
theorem dX8_seeks_179 : decode cX8_seeks 179 = .ok (.putfield 251, 3) := by decide +kernel
theorem dX8_seeks_182 : decode cX8_seeks 182 = .ok (.aload_n 0, 1) := by decide +kernel
theorem dX8_seeks_183 : decode cX8_seeks 183 = .ok (.getfield 39, 3) := by decide +kernel
theorem dX8_seeks_186 : decode cX8_seeks 186 = .ok (.aload_n 0, 1) := by decide +kernel
theorem dX8_seeks_187 : decode cX8_seeks 187 = .ok (.getfield 255, 3) := by decide +kernel
theorem dX8_seeks_190 : decode cX8_seeks 190 = .ok (.iload 9, 2) := by decide +kernel
theorem dX8_seeks_192 : decode cX8_seeks 192 = .ok (.iastore, 1) := by decide +kernel
theorem dX8_seeks_193 : decode cX8_seeks 193 = .ok (.aload_n 0, 1) := by decide +kernel
theorem dX8_seeks_194 : decode cX8_seeks 194 = .ok (.dup, 1) := by decide +kernel
theorem dX8_seeks_195 : decode cX8_seeks 195 = .ok (.getfield 255, 3) := by decide +kernel
theorem dX8_seeks_198 : decode cX8_seeks 198 = .ok (.iconst 1, 1) := by decide +kernel
theorem dX8_seeks_199 : decode cX8_seeks 199 = .ok (.iadd, 1) := by decide +kernel
theorem dX8_seeks_200 : decode cX8_seeks 200 = .ok (.putfield 255, 3) := by decide +kernel
theorem dX8_seeks_203 : decode cX8_seeks 203 = .ok (.aload_n 0, 1) := by decide +kernel
theorem dX8_seeks_204 : decode cX8_seeks 204 = .ok (.iload_n 1, 1) := by decide +kernel
theorem dX8_seeks_205 : decode cX8_seeks 205 = .ok (.iload_n 2, 1) := by decide +kernel
theorem dX8_seeks_206 : decode cX8_seeks 206 = .ok (.iconst 1, 1) := by decide +kernel
theorem dX8_seeks_207 : decode cX8_seeks 207 = .ok (.isub, 1) := by decide +kernel
theorem dX8_seeks_208 : decode cX8_seeks 208 = .ok (.lload_n 3, 1) := by decide +kernel
theorem dX8_seeks_209 : decode cX8_seeks 209 = .ok (.aload_n 0, 1) := by decide +kernel
theorem dX8_seeks_210 : decode cX8_seeks 210 = .ok (.getfield 33, 3) := by decide +kernel
theorem dX8_seeks_213 : decode cX8_seeks 213 = .ok (.iload 9, 2) := by decide +kernel
theorem dX8_seeks_215 : decode cX8_seeks 215 = .ok (.laload, 1) := by decide +kernel
theorem dX8_seeks_216 : decode cX8_seeks 216 = .ok (.lor, 1) := by decide +kernel
theorem dX8_seeks_217 : decode cX8_seeks 217 = .ok (.lload 5, 2) := by decide +kernel
theorem dX8_seeks_219 : decode cX8_seeks 219 = .ok (.aload_n 0, 1) := by decide +kernel
theorem dX8_seeks_220 : decode cX8_seeks 220 = .ok (.getfield 36, 3) := by decide +kernel
theorem dX8_seeks_223 : decode cX8_seeks 223 = .ok (.iload 9, 2) := by decide +kernel
theorem dX8_seeks_225 : decode cX8_seeks 225 = .ok (.laload, 1) := by decide +kernel
theorem dX8_seeks_226 : decode cX8_seeks 226 = .ok (.lor, 1) := by decide +kernel
theorem dX8_seeks_227 : decode cX8_seeks 227 = .ok (.invokevirtual 258, 3) := by decide +kernel
theorem dX8_seeks_230 : decode cX8_seeks 230 = .ok (.ifCond .eq 5, 3) := by decide +kernel
theorem dX8_seeks_233 : decode cX8_seeks 233 = .ok (.iconst 1, 1) := by decide +kernel
theorem dX8_seeks_234 : decode cX8_seeks 234 = .ok (.ireturn, 1) := by decide +kernel
theorem dX8_seeks_235 : decode cX8_seeks 235 = .ok (.aload_n 0, 1) := by decide +kernel
theorem dX8_seeks_236 : decode cX8_seeks 236 = .ok (.dup, 1) := by decide +kernel
theorem dX8_seeks_237 : decode cX8_seeks 237 = .ok (.getfield 255, 3) := by decide +kernel
theorem dX8_seeks_240 : decode cX8_seeks 240 = .ok (.iconst 1, 1) := by decide +kernel
theorem dX8_seeks_241 : decode cX8_seeks 241 = .ok (.isub, 1) := by decide +kernel
theorem dX8_seeks_242 : decode cX8_seeks 242 = .ok (.putfield 255, 3) := by decide +kernel
theorem dX8_seeks_245 : decode cX8_seeks 245 = .ok (.aload_n 0, 1) := by decide +kernel
theorem dX8_seeks_246 : decode cX8_seeks 246 = .ok (.getfield 251, 3) := by decide +kernel
theorem dX8_seeks_249 : decode cX8_seeks 249 = .ok (.ldc 254, 2) := by decide +kernel
theorem dX8_seeks_251 : decode cX8_seeks 251 = .ok (.if_icmp .ne 8, 3) := by decide +kernel
theorem dX8_seeks_254 : decode cX8_seeks 254 = .ok (.aload_n 0, 1) := by decide +kernel
theorem dX8_seeks_255 : decode cX8_seeks 255 = .ok (.iconst 1, 1) := by decide +kernel
theorem dX8_seeks_256 : decode cX8_seeks 256 = .ok (.putfield 262, 3) := by decide +kernel
theorem dX8_seeks_259 : decode cX8_seeks 259 = .ok (.aload_n 0, 1) := by decide +kernel
theorem dX8_seeks_260 : decode cX8_seeks 260 = .ok (.getfield 262, 3) := by decide +kernel
theorem dX8_seeks_263 : decode cX8_seeks 263 = .ok (.ifCond .eq 5, 3) := by decide +kernel
theorem dX8_seeks_266 : decode cX8_seeks 266 = .ok (.iconst 0, 1) := by decide +kernel
theorem dX8_seeks_267 : decode cX8_seeks 267 = .ok (.ireturn, 1) := by decide +kernel
theorem dX8_seeks_268 : decode cX8_seeks 268 = .ok (.iinc 9 1, 3) := by decide +kernel
theorem dX8_seeks_271 : decode cX8_seeks 271 = .ok (.goto (-186), 3) := by decide +kernel
theorem dX8_seeks_274 : decode cX8_seeks 274 = .ok (.iconst 0, 1) := by decide +kernel
theorem dX8_seeks_275 : decode cX8_seeks 275 = .ok (.ireturn, 1) := by decide +kernel
theorem dX8_fewestOf_0 : decode cX8_fewestOf 0 = .ok (.aload_n 0, 1) := by decide +kernel
theorem dX8_fewestOf_1 : decode cX8_fewestOf 1 = .ok (.aload_n 0, 1) := by decide +kernel
theorem dX8_fewestOf_2 : decode cX8_fewestOf 2 = .ok (.iload_n 1, 1) := by decide +kernel
theorem dX8_fewestOf_3 : decode cX8_fewestOf 3 = .ok (.invokevirtual 113, 3) := by decide +kernel
theorem dX8_fewestOf_6 : decode cX8_fewestOf 6 = .ok (.putfield 241, 3) := by decide +kernel
theorem dX8_fewestOf_9 : decode cX8_fewestOf 9 = .ok (.aload_n 0, 1) := by decide +kernel
theorem dX8_fewestOf_10 : decode cX8_fewestOf 10 = .ok (.aload_n 0, 1) := by decide +kernel
theorem dX8_fewestOf_11 : decode cX8_fewestOf 11 = .ok (.iload_n 1, 1) := by decide +kernel
theorem dX8_fewestOf_12 : decode cX8_fewestOf 12 = .ok (.iload_n 2, 1) := by decide +kernel
theorem dX8_fewestOf_13 : decode cX8_fewestOf 13 = .ok (.invokevirtual 226, 3) := by decide +kernel
theorem dX8_fewestOf_16 : decode cX8_fewestOf 16 = .ok (.putfield 248, 3) := by decide +kernel
theorem dX8_fewestOf_19 : decode cX8_fewestOf 19 = .ok (.iconst 0, 1) := by decide +kernel
theorem dX8_fewestOf_20 : decode cX8_fewestOf 20 = .ok (.istore_n 3, 1) := by decide +kernel
theorem dX8_fewestOf_21 : decode cX8_fewestOf 21 = .ok (.iload_n 3, 1) := by decide +kernel
theorem dX8_fewestOf_22 : decode cX8_fewestOf 22 = .ok (.aload_n 0, 1) := by decide +kernel
theorem dX8_fewestOf_23 : decode cX8_fewestOf 23 = .ok (.getfield 241, 3) := by decide +kernel
theorem dX8_fewestOf_26 : decode cX8_fewestOf 26 = .ok (.if_icmp .ge 95, 3) := by decide +kernel
theorem dX8_fewestOf_29 : decode cX8_fewestOf 29 = .ok (.aload_n 0, 1) := by decide +kernel
theorem dX8_fewestOf_30 : decode cX8_fewestOf 30 = .ok (.getfield 33, 3) := by decide +kernel
theorem dX8_fewestOf_33 : decode cX8_fewestOf 33 = .ok (.iload_n 3, 1) := by decide +kernel
theorem dX8_fewestOf_34 : decode cX8_fewestOf 34 = .ok (.lconst 0, 1) := by decide +kernel
theorem dX8_fewestOf_35 : decode cX8_fewestOf 35 = .ok (.lastore, 1) := by decide +kernel
theorem dX8_fewestOf_36 : decode cX8_fewestOf 36 = .ok (.aload_n 0, 1) := by decide +kernel
theorem dX8_fewestOf_37 : decode cX8_fewestOf 37 = .ok (.getfield 36, 3) := by decide +kernel
theorem dX8_fewestOf_40 : decode cX8_fewestOf 40 = .ok (.iload_n 3, 1) := by decide +kernel
theorem dX8_fewestOf_41 : decode cX8_fewestOf 41 = .ok (.lconst 0, 1) := by decide +kernel
theorem dX8_fewestOf_42 : decode cX8_fewestOf 42 = .ok (.lastore, 1) := by decide +kernel
theorem dX8_fewestOf_43 : decode cX8_fewestOf 43 = .ok (.iconst 0, 1) := by decide +kernel
theorem dX8_fewestOf_44 : decode cX8_fewestOf 44 = .ok (.istore 4, 2) := by decide +kernel
theorem dX8_fewestOf_46 : decode cX8_fewestOf 46 = .ok (.iload 4, 2) := by decide +kernel
theorem dX8_fewestOf_48 : decode cX8_fewestOf 48 = .ok (.aload_n 0, 1) := by decide +kernel
theorem dX8_fewestOf_49 : decode cX8_fewestOf 49 = .ok (.getfield 241, 3) := by decide +kernel
theorem dX8_fewestOf_52 : decode cX8_fewestOf 52 = .ok (.if_icmp .ge 63, 3) := by decide +kernel
theorem dX8_fewestOf_55 : decode cX8_fewestOf 55 = .ok (.aload_n 0, 1) := by decide +kernel
theorem dX8_fewestOf_56 : decode cX8_fewestOf 56 = .ok (.iload_n 1, 1) := by decide +kernel
theorem dX8_fewestOf_57 : decode cX8_fewestOf 57 = .ok (.iload_n 3, 1) := by decide +kernel
theorem dX8_fewestOf_58 : decode cX8_fewestOf 58 = .ok (.iload 4, 2) := by decide +kernel
theorem dX8_fewestOf_60 : decode cX8_fewestOf 60 = .ok (.invokevirtual 195, 3) := by decide +kernel
theorem dX8_fewestOf_63 : decode cX8_fewestOf 63 = .ok (.iload_n 2, 1) := by decide +kernel
theorem dX8_fewestOf_64 : decode cX8_fewestOf 64 = .ok (.if_icmp .le 6, 3) := by decide +kernel
theorem dX8_fewestOf_67 : decode cX8_fewestOf 67 = .ok (.goto 42, 3) := by decide +kernel
theorem dX8_fewestOf_70 : decode cX8_fewestOf 70 = .ok (.iload 4, 2) := by decide +kernel
theorem dX8_fewestOf_72 : decode cX8_fewestOf 72 = .ok (.bipush 64, 2) := by decide +kernel
theorem dX8_fewestOf_74 : decode cX8_fewestOf 74 = .ok (.if_icmp .ge 19, 3) := by decide +kernel
theorem dX8_fewestOf_77 : decode cX8_fewestOf 77 = .ok (.aload_n 0, 1) := by decide +kernel
theorem dX8_fewestOf_78 : decode cX8_fewestOf 78 = .ok (.getfield 33, 3) := by decide +kernel
theorem dX8_fewestOf_81 : decode cX8_fewestOf 81 = .ok (.iload_n 3, 1) := by decide +kernel
theorem dX8_fewestOf_82 : decode cX8_fewestOf 82 = .ok (.dup2, 1) := by decide +kernel
theorem dX8_fewestOf_83 : decode cX8_fewestOf 83 = .ok (.laload, 1) := by decide +kernel
theorem dX8_fewestOf_84 : decode cX8_fewestOf 84 = .ok (.lconst 1, 1) := by decide +kernel
theorem dX8_fewestOf_85 : decode cX8_fewestOf 85 = .ok (.iload 4, 2) := by decide +kernel
theorem dX8_fewestOf_87 : decode cX8_fewestOf 87 = .ok (.lshl, 1) := by decide +kernel
theorem dX8_fewestOf_88 : decode cX8_fewestOf 88 = .ok (.lor, 1) := by decide +kernel
theorem dX8_fewestOf_89 : decode cX8_fewestOf 89 = .ok (.lastore, 1) := by decide +kernel
theorem dX8_fewestOf_90 : decode cX8_fewestOf 90 = .ok (.goto 19, 3) := by decide +kernel
theorem dX8_fewestOf_93 : decode cX8_fewestOf 93 = .ok (.aload_n 0, 1) := by decide +kernel
theorem dX8_fewestOf_94 : decode cX8_fewestOf 94 = .ok (.getfield 36, 3) := by decide +kernel
theorem dX8_fewestOf_97 : decode cX8_fewestOf 97 = .ok (.iload_n 3, 1) := by decide +kernel
theorem dX8_fewestOf_98 : decode cX8_fewestOf 98 = .ok (.dup2, 1) := by decide +kernel
theorem dX8_fewestOf_99 : decode cX8_fewestOf 99 = .ok (.laload, 1) := by decide +kernel
theorem dX8_fewestOf_100 : decode cX8_fewestOf 100 = .ok (.lconst 1, 1) := by decide +kernel
theorem dX8_fewestOf_101 : decode cX8_fewestOf 101 = .ok (.iload 4, 2) := by decide +kernel
theorem dX8_fewestOf_103 : decode cX8_fewestOf 103 = .ok (.bipush 64, 2) := by decide +kernel
theorem dX8_fewestOf_105 : decode cX8_fewestOf 105 = .ok (.isub, 1) := by decide +kernel
theorem dX8_fewestOf_106 : decode cX8_fewestOf 106 = .ok (.lshl, 1) := by decide +kernel
theorem dX8_fewestOf_107 : decode cX8_fewestOf 107 = .ok (.lor, 1) := by decide +kernel
theorem dX8_fewestOf_108 : decode cX8_fewestOf 108 = .ok (.lastore, 1) := by decide +kernel
theorem dX8_fewestOf_109 : decode cX8_fewestOf 109 = .ok (.iinc 4 1, 3) := by decide +kernel
theorem dX8_fewestOf_112 : decode cX8_fewestOf 112 = .ok (.goto (-66), 3) := by decide +kernel
theorem dX8_fewestOf_115 : decode cX8_fewestOf 115 = .ok (.iinc 3 1, 3) := by decide +kernel
theorem dX8_fewestOf_118 : decode cX8_fewestOf 118 = .ok (.goto (-97), 3) := by decide +kernel
theorem dX8_fewestOf_121 : decode cX8_fewestOf 121 = .ok (.aload_n 0, 1) := by decide +kernel
theorem dX8_fewestOf_122 : decode cX8_fewestOf 122 = .ok (.iconst 0, 1) := by decide +kernel
theorem dX8_fewestOf_123 : decode cX8_fewestOf 123 = .ok (.putfield 251, 3) := by decide +kernel
theorem dX8_fewestOf_126 : decode cX8_fewestOf 126 = .ok (.aload_n 0, 1) := by decide +kernel
theorem dX8_fewestOf_127 : decode cX8_fewestOf 127 = .ok (.iconst 0, 1) := by decide +kernel
theorem dX8_fewestOf_128 : decode cX8_fewestOf 128 = .ok (.putfield 262, 3) := by decide +kernel
theorem dX8_fewestOf_131 : decode cX8_fewestOf 131 = .ok (.iconst 1, 1) := by decide +kernel
theorem dX8_fewestOf_132 : decode cX8_fewestOf 132 = .ok (.istore_n 3, 1) := by decide +kernel
theorem dX8_fewestOf_133 : decode cX8_fewestOf 133 = .ok (.iload_n 3, 1) := by decide +kernel
theorem dX8_fewestOf_134 : decode cX8_fewestOf 134 = .ok (.bipush 8, 2) := by decide +kernel
theorem dX8_fewestOf_136 : decode cX8_fewestOf 136 = .ok (.if_icmp .gt 37, 3) := by decide +kernel
theorem dX8_fewestOf_139 : decode cX8_fewestOf 139 = .ok (.aload_n 0, 1) := by decide +kernel
theorem dX8_fewestOf_140 : decode cX8_fewestOf 140 = .ok (.getfield 262, 3) := by decide +kernel
theorem dX8_fewestOf_143 : decode cX8_fewestOf 143 = .ok (.ifCond .ne 30, 3) := by decide +kernel
theorem dX8_fewestOf_146 : decode cX8_fewestOf 146 = .ok (.aload_n 0, 1) := by decide +kernel
theorem dX8_fewestOf_147 : decode cX8_fewestOf 147 = .ok (.iconst 0, 1) := by decide +kernel
theorem dX8_fewestOf_148 : decode cX8_fewestOf 148 = .ok (.putfield 255, 3) := by decide +kernel
theorem dX8_fewestOf_151 : decode cX8_fewestOf 151 = .ok (.aload_n 0, 1) := by decide +kernel
theorem dX8_fewestOf_152 : decode cX8_fewestOf 152 = .ok (.iload_n 1, 1) := by decide +kernel
theorem dX8_fewestOf_153 : decode cX8_fewestOf 153 = .ok (.iload_n 3, 1) := by decide +kernel
theorem dX8_fewestOf_154 : decode cX8_fewestOf 154 = .ok (.lconst 0, 1) := by decide +kernel
theorem dX8_fewestOf_155 : decode cX8_fewestOf 155 = .ok (.lconst 0, 1) := by decide +kernel
theorem dX8_fewestOf_156 : decode cX8_fewestOf 156 = .ok (.invokevirtual 258, 3) := by decide +kernel
theorem dX8_fewestOf_159 : decode cX8_fewestOf 159 = .ok (.ifCond .eq 8, 3) := by decide +kernel
theorem dX8_fewestOf_162 : decode cX8_fewestOf 162 = .ok (.aload_n 0, 1) := by decide +kernel
theorem dX8_fewestOf_163 : decode cX8_fewestOf 163 = .ok (.getfield 255, 3) := by decide +kernel
theorem dX8_fewestOf_166 : decode cX8_fewestOf 166 = .ok (.ireturn, 1) := by decide +kernel
theorem dX8_fewestOf_167 : decode cX8_fewestOf 167 = .ok (.iinc 3 1, 3) := by decide +kernel
theorem dX8_fewestOf_170 : decode cX8_fewestOf 170 = .ok (.goto (-37), 3) := by decide +kernel
theorem dX8_fewestOf_173 : decode cX8_fewestOf 173 = .ok (.aload_n 0, 1) := by decide +kernel
theorem dX8_fewestOf_174 : decode cX8_fewestOf 174 = .ok (.iconst 0, 1) := by decide +kernel
theorem dX8_fewestOf_175 : decode cX8_fewestOf 175 = .ok (.putfield 255, 3) := by decide +kernel
theorem dX8_fewestOf_178 : decode cX8_fewestOf 178 = .ok (.bipush (-2), 2) := by decide +kernel
theorem dX8_fewestOf_180 : decode cX8_fewestOf 180 = .ok (.ireturn, 1) := by decide +kernel
theorem dX8_fewest_0 : decode cX8_fewest 0 = .ok (.aload_n 0, 1) := by decide +kernel
theorem dX8_fewest_1 : decode cX8_fewest 1 = .ok (.iconst 0, 1) := by decide +kernel
theorem dX8_fewest_2 : decode cX8_fewest 2 = .ok (.putfield 42, 3) := by decide +kernel
theorem dX8_fewest_5 : decode cX8_fewest 5 = .ok (.aload_n 0, 1) := by decide +kernel
theorem dX8_fewest_6 : decode cX8_fewest 6 = .ok (.iload_n 1, 1) := by decide +kernel
theorem dX8_fewest_7 : decode cX8_fewest 7 = .ok (.invokevirtual 192, 3) := by decide +kernel
theorem dX8_fewest_10 : decode cX8_fewest 10 = .ok (.ifCond .eq 13, 3) := by decide +kernel
theorem dX8_fewest_13 : decode cX8_fewest 13 = .ok (.iload_n 3, 1) := by decide +kernel
theorem dX8_fewest_14 : decode cX8_fewest 14 = .ok (.iconst 0, 1) := by decide +kernel
theorem dX8_fewest_15 : decode cX8_fewest 15 = .ok (.bipush 9, 2) := by decide +kernel
theorem dX8_fewest_17 : decode cX8_fewest 17 = .ok (.invokestatic 63, 3) := by decide +kernel
theorem dX8_fewest_20 : decode cX8_fewest 20 = .ok (.ifCond .ne 9, 3) := by decide +kernel
theorem dX8_fewest_23 : decode cX8_fewest 23 = .ok (.aload_n 0, 1) := by decide +kernel
theorem dX8_fewest_24 : decode cX8_fewest 24 = .ok (.iconst 1, 1) := by decide +kernel
theorem dX8_fewest_25 : decode cX8_fewest 25 = .ok (.invokevirtual 173, 3) := by decide +kernel
theorem dX8_fewest_28 : decode cX8_fewest 28 = .ok (.ireturn, 1) := by decide +kernel
theorem dX8_fewest_29 : decode cX8_fewest 29 = .ok (.iload_n 2, 1) := by decide +kernel
theorem dX8_fewest_30 : decode cX8_fewest 30 = .ok (.invokestatic 223, 3) := by decide +kernel
theorem dX8_fewest_33 : decode cX8_fewest 33 = .ok (.ifCond .ne 9, 3) := by decide +kernel
theorem dX8_fewest_36 : decode cX8_fewest 36 = .ok (.aload_n 0, 1) := by decide +kernel
theorem dX8_fewest_37 : decode cX8_fewest 37 = .ok (.iconst 2, 1) := by decide +kernel
theorem dX8_fewest_38 : decode cX8_fewest 38 = .ok (.invokevirtual 173, 3) := by decide +kernel
theorem dX8_fewest_41 : decode cX8_fewest 41 = .ok (.ireturn, 1) := by decide +kernel
theorem dX8_fewest_42 : decode cX8_fewest 42 = .ok (.aload_n 0, 1) := by decide +kernel
theorem dX8_fewest_43 : decode cX8_fewest 43 = .ok (.iload_n 1, 1) := by decide +kernel
theorem dX8_fewest_44 : decode cX8_fewest 44 = .ok (.invokevirtual 113, 3) := by decide +kernel
theorem dX8_fewest_47 : decode cX8_fewest 47 = .ok (.bipush 81, 2) := by decide +kernel
theorem dX8_fewest_49 : decode cX8_fewest 49 = .ok (.if_icmp .le 9, 3) := by decide +kernel
theorem dX8_fewest_52 : decode cX8_fewest 52 = .ok (.aload_n 0, 1) := by decide +kernel
theorem dX8_fewest_53 : decode cX8_fewest 53 = .ok (.iconst 5, 1) := by decide +kernel
theorem dX8_fewest_54 : decode cX8_fewest 54 = .ok (.invokevirtual 173, 3) := by decide +kernel
theorem dX8_fewest_57 : decode cX8_fewest 57 = .ok (.ireturn, 1) := by decide +kernel
theorem dX8_fewest_58 : decode cX8_fewest 58 = .ok (.aload_n 0, 1) := by decide +kernel
theorem dX8_fewest_59 : decode cX8_fewest 59 = .ok (.iload_n 1, 1) := by decide +kernel
theorem dX8_fewest_60 : decode cX8_fewest 60 = .ok (.iload_n 2, 1) := by decide +kernel
theorem dX8_fewest_61 : decode cX8_fewest 61 = .ok (.invokevirtual 266, 3) := by decide +kernel
theorem dX8_fewest_64 : decode cX8_fewest 64 = .ok (.istore 4, 2) := by decide +kernel
theorem dX8_fewest_66 : decode cX8_fewest 66 = .ok (.aload_n 0, 1) := by decide +kernel
theorem dX8_fewest_67 : decode cX8_fewest 67 = .ok (.iload_n 3, 1) := by decide +kernel
theorem dX8_fewest_68 : decode cX8_fewest 68 = .ok (.ifCond .ne 8, 3) := by decide +kernel
theorem dX8_fewest_71 : decode cX8_fewest 71 = .ok (.iload 4, 2) := by decide +kernel
theorem dX8_fewest_73 : decode cX8_fewest 73 = .ok (.goto 38, 3) := by decide +kernel
theorem dX8_fewest_76 : decode cX8_fewest 76 = .ok (.iload_n 3, 1) := by decide +kernel
theorem dX8_fewest_77 : decode cX8_fewest 77 = .ok (.iconst 1, 1) := by decide +kernel
theorem dX8_fewest_78 : decode cX8_fewest 78 = .ok (.if_icmp .ne 10, 3) := by decide +kernel
theorem dX8_fewest_81 : decode cX8_fewest 81 = .ok (.aload_n 0, 1) := by decide +kernel
theorem dX8_fewest_82 : decode cX8_fewest 82 = .ok (.getfield 251, 3) := by decide +kernel
theorem dX8_fewest_85 : decode cX8_fewest 85 = .ok (.goto 26, 3) := by decide +kernel
theorem dX8_fewest_88 : decode cX8_fewest 88 = .ok (.iload_n 3, 1) := by decide +kernel
theorem dX8_fewest_89 : decode cX8_fewest 89 = .ok (.iconst 2, 1) := by decide +kernel
theorem dX8_fewest_90 : decode cX8_fewest 90 = .ok (.isub, 1) := by decide +kernel
theorem dX8_fewest_91 : decode cX8_fewest 91 = .ok (.aload_n 0, 1) := by decide +kernel
theorem dX8_fewest_92 : decode cX8_fewest 92 = .ok (.getfield 255, 3) := by decide +kernel
theorem dX8_fewest_95 : decode cX8_fewest 95 = .ok (.if_icmp .ge 14, 3) := by decide +kernel
theorem dX8_fewest_98 : decode cX8_fewest 98 = .ok (.aload_n 0, 1) := by decide +kernel
theorem dX8_fewest_99 : decode cX8_fewest 99 = .ok (.getfield 39, 3) := by decide +kernel
theorem dX8_fewest_102 : decode cX8_fewest 102 = .ok (.iload_n 3, 1) := by decide +kernel
theorem dX8_fewest_103 : decode cX8_fewest 103 = .ok (.iconst 2, 1) := by decide +kernel
theorem dX8_fewest_104 : decode cX8_fewest 104 = .ok (.isub, 1) := by decide +kernel
theorem dX8_fewest_105 : decode cX8_fewest 105 = .ok (.iaload, 1) := by decide +kernel
theorem dX8_fewest_106 : decode cX8_fewest 106 = .ok (.goto 5, 3) := by decide +kernel
theorem dX8_fewest_109 : decode cX8_fewest 109 = .ok (.bipush (-2), 2) := by decide +kernel
theorem dX8_fewest_111 : decode cX8_fewest 111 = .ok (.invokevirtual 189, 3) := by decide +kernel
theorem dX8_fewest_114 : decode cX8_fewest 114 = .ok (.ireturn, 1) := by decide +kernel
theorem dX8_remembers_0 : decode cX8_remembers 0 = .ok (.aload_n 0, 1) := by decide +kernel
theorem dX8_remembers_1 : decode cX8_remembers 1 = .ok (.getfield 186, 3) := by decide +kernel
theorem dX8_remembers_4 : decode cX8_remembers 4 = .ok (.bipush 10, 2) := by decide +kernel
theorem dX8_remembers_6 : decode cX8_remembers 6 = .ok (.if_icmp .ne 52, 3) := by decide +kernel
theorem dX8_remembers_9 : decode cX8_remembers 9 = .ok (.aload_n 0, 1) := by decide +kernel
theorem dX8_remembers_10 : decode cX8_remembers 10 = .ok (.dup, 1) := by decide +kernel
theorem dX8_remembers_11 : decode cX8_remembers 11 = .ok (.getfield 186, 3) := by decide +kernel
theorem dX8_remembers_14 : decode cX8_remembers 14 = .ok (.iconst 1, 1) := by decide +kernel
theorem dX8_remembers_15 : decode cX8_remembers 15 = .ok (.isub, 1) := by decide +kernel
theorem dX8_remembers_16 : decode cX8_remembers 16 = .ok (.putfield 186, 3) := by decide +kernel
theorem dX8_remembers_19 : decode cX8_remembers 19 = .ok (.iconst 0, 1) := by decide +kernel
theorem dX8_remembers_20 : decode cX8_remembers 20 = .ok (.istore_n 1, 1) := by decide +kernel
theorem dX8_remembers_21 : decode cX8_remembers 21 = .ok (.iload_n 1, 1) := by decide +kernel
theorem dX8_remembers_22 : decode cX8_remembers 22 = .ok (.aload_n 0, 1) := by decide +kernel
theorem dX8_remembers_23 : decode cX8_remembers 23 = .ok (.getfield 186, 3) := by decide +kernel
theorem dX8_remembers_26 : decode cX8_remembers 26 = .ok (.bipush 8, 2) := by decide +kernel
theorem dX8_remembers_28 : decode cX8_remembers 28 = .ok (.imul, 1) := by decide +kernel
theorem dX8_remembers_29 : decode cX8_remembers 29 = .ok (.sipush 273, 3) := by decide +kernel
theorem dX8_remembers_32 : decode cX8_remembers 32 = .ok (.imul, 1) := by decide +kernel
theorem dX8_remembers_33 : decode cX8_remembers 33 = .ok (.if_icmp .ge 25, 3) := by decide +kernel
theorem dX8_remembers_36 : decode cX8_remembers 36 = .ok (.aload_n 0, 1) := by decide +kernel
theorem dX8_remembers_37 : decode cX8_remembers 37 = .ok (.getfield 20, 3) := by decide +kernel
theorem dX8_remembers_40 : decode cX8_remembers 40 = .ok (.iload_n 1, 1) := by decide +kernel
theorem dX8_remembers_41 : decode cX8_remembers 41 = .ok (.aload_n 0, 1) := by decide +kernel
theorem dX8_remembers_42 : decode cX8_remembers 42 = .ok (.getfield 20, 3) := by decide +kernel
theorem dX8_remembers_45 : decode cX8_remembers 45 = .ok (.iload_n 1, 1) := by decide +kernel
theorem dX8_remembers_46 : decode cX8_remembers 46 = .ok (.sipush 2184, 3) := by decide +kernel
theorem dX8_remembers_49 : decode cX8_remembers 49 = .ok (.iadd, 1) := by decide +kernel
theorem dX8_remembers_50 : decode cX8_remembers 50 = .ok (.iaload, 1) := by decide +kernel
theorem dX8_remembers_51 : decode cX8_remembers 51 = .ok (.iastore, 1) := by decide +kernel
theorem dX8_remembers_52 : decode cX8_remembers 52 = .ok (.iinc 1 1, 3) := by decide +kernel
theorem dX8_remembers_55 : decode cX8_remembers 55 = .ok (.goto (-34), 3) := by decide +kernel
theorem dX8_remembers_58 : decode cX8_remembers 58 = .ok (.iconst 0, 1) := by decide +kernel
theorem dX8_remembers_59 : decode cX8_remembers 59 = .ok (.istore_n 1, 1) := by decide +kernel
theorem dX8_remembers_60 : decode cX8_remembers 60 = .ok (.iload_n 1, 1) := by decide +kernel
theorem dX8_remembers_61 : decode cX8_remembers 61 = .ok (.sipush 2184, 3) := by decide +kernel
theorem dX8_remembers_64 : decode cX8_remembers 64 = .ok (.if_icmp .ge 33, 3) := by decide +kernel
theorem dX8_remembers_67 : decode cX8_remembers 67 = .ok (.aload_n 0, 1) := by decide +kernel
theorem dX8_remembers_68 : decode cX8_remembers 68 = .ok (.getfield 20, 3) := by decide +kernel
theorem dX8_remembers_71 : decode cX8_remembers 71 = .ok (.aload_n 0, 1) := by decide +kernel
theorem dX8_remembers_72 : decode cX8_remembers 72 = .ok (.getfield 186, 3) := by decide +kernel
theorem dX8_remembers_75 : decode cX8_remembers 75 = .ok (.bipush 8, 2) := by decide +kernel
theorem dX8_remembers_77 : decode cX8_remembers 77 = .ok (.imul, 1) := by decide +kernel
theorem dX8_remembers_78 : decode cX8_remembers 78 = .ok (.sipush 273, 3) := by decide +kernel
theorem dX8_remembers_81 : decode cX8_remembers 81 = .ok (.imul, 1) := by decide +kernel
theorem dX8_remembers_82 : decode cX8_remembers 82 = .ok (.iload_n 1, 1) := by decide +kernel
theorem dX8_remembers_83 : decode cX8_remembers 83 = .ok (.iadd, 1) := by decide +kernel
theorem dX8_remembers_84 : decode cX8_remembers 84 = .ok (.aload_n 0, 1) := by decide +kernel
theorem dX8_remembers_85 : decode cX8_remembers 85 = .ok (.getfield 17, 3) := by decide +kernel
theorem dX8_remembers_88 : decode cX8_remembers 88 = .ok (.iload_n 1, 1) := by decide +kernel
theorem dX8_remembers_89 : decode cX8_remembers 89 = .ok (.iaload, 1) := by decide +kernel
theorem dX8_remembers_90 : decode cX8_remembers 90 = .ok (.iastore, 1) := by decide +kernel
theorem dX8_remembers_91 : decode cX8_remembers 91 = .ok (.iinc 1 1, 3) := by decide +kernel
theorem dX8_remembers_94 : decode cX8_remembers 94 = .ok (.goto (-34), 3) := by decide +kernel
theorem dX8_remembers_97 : decode cX8_remembers 97 = .ok (.aload_n 0, 1) := by decide +kernel
theorem dX8_remembers_98 : decode cX8_remembers 98 = .ok (.dup, 1) := by decide +kernel
theorem dX8_remembers_99 : decode cX8_remembers 99 = .ok (.getfield 186, 3) := by decide +kernel
theorem dX8_remembers_102 : decode cX8_remembers 102 = .ok (.iconst 1, 1) := by decide +kernel
theorem dX8_remembers_103 : decode cX8_remembers 103 = .ok (.iadd, 1) := by decide +kernel
theorem dX8_remembers_104 : decode cX8_remembers 104 = .ok (.putfield 186, 3) := by decide +kernel
theorem dX8_remembers_107 : decode cX8_remembers 107 = .ok (.return_, 1) := by decide +kernel
theorem dX8_becomes_0 : decode cX8_becomes 0 = .ok (.aload_n 0, 1) := by decide +kernel
theorem dX8_becomes_1 : decode cX8_becomes 1 = .ok (.invokevirtual 269, 3) := by decide +kernel
theorem dX8_becomes_4 : decode cX8_becomes 4 = .ok (.aload_n 0, 1) := by decide +kernel
theorem dX8_becomes_5 : decode cX8_becomes 5 = .ok (.bipush 12, 2) := by decide +kernel
theorem dX8_becomes_7 : decode cX8_becomes 7 = .ok (.iload_n 1, 1) := by decide +kernel
theorem dX8_becomes_8 : decode cX8_becomes 8 = .ok (.invokevirtual 179, 3) := by decide +kernel
theorem dX8_becomes_11 : decode cX8_becomes 11 = .ok (.aload_n 0, 1) := by decide +kernel
theorem dX8_becomes_12 : decode cX8_becomes 12 = .ok (.aload_n 0, 1) := by decide +kernel
theorem dX8_becomes_13 : decode cX8_becomes 13 = .ok (.iload_n 1, 1) := by decide +kernel
theorem dX8_becomes_14 : decode cX8_becomes 14 = .ok (.invokevirtual 199, 3) := by decide +kernel
theorem dX8_becomes_17 : decode cX8_becomes 17 = .ok (.invokevirtual 189, 3) := by decide +kernel
theorem dX8_becomes_20 : decode cX8_becomes 20 = .ok (.ireturn, 1) := by decide +kernel
theorem dX8_isTo_0 : decode cX8_isTo 0 = .ok (.iload_n 0, 1) := by decide +kernel
theorem dX8_isTo_1 : decode cX8_isTo 1 = .ok (.iconst 0, 1) := by decide +kernel
theorem dX8_isTo_2 : decode cX8_isTo 2 = .ok (.bipush 7, 2) := by decide +kernel
theorem dX8_isTo_4 : decode cX8_isTo 4 = .ok (.invokestatic 63, 3) := by decide +kernel
theorem dX8_isTo_7 : decode cX8_isTo 7 = .ok (.ireturn, 1) := by decide +kernel
theorem dX8_set_0 : decode cX8_set 0 = .ok (.aload_n 0, 1) := by decide +kernel
theorem dX8_set_1 : decode cX8_set 1 = .ok (.iconst 0, 1) := by decide +kernel
theorem dX8_set_2 : decode cX8_set 2 = .ok (.putfield 42, 3) := by decide +kernel
theorem dX8_set_5 : decode cX8_set 5 = .ok (.aload_n 0, 1) := by decide +kernel
theorem dX8_set_6 : decode cX8_set 6 = .ok (.iload_n 1, 1) := by decide +kernel
theorem dX8_set_7 : decode cX8_set 7 = .ok (.iload_n 2, 1) := by decide +kernel
theorem dX8_set_8 : decode cX8_set 8 = .ok (.invokevirtual 217, 3) := by decide +kernel
theorem dX8_set_11 : decode cX8_set 11 = .ok (.ifCond .ne 9, 3) := by decide +kernel
theorem dX8_set_14 : decode cX8_set 14 = .ok (.aload_n 0, 1) := by decide +kernel
theorem dX8_set_15 : decode cX8_set 15 = .ok (.iconst 1, 1) := by decide +kernel
theorem dX8_set_16 : decode cX8_set 16 = .ok (.invokevirtual 173, 3) := by decide +kernel
theorem dX8_set_19 : decode cX8_set 19 = .ok (.ireturn, 1) := by decide +kernel
theorem dX8_set_20 : decode cX8_set 20 = .ok (.aload_n 0, 1) := by decide +kernel
theorem dX8_set_21 : decode cX8_set 21 = .ok (.iload_n 1, 1) := by decide +kernel
theorem dX8_set_22 : decode cX8_set 22 = .ok (.iload_n 2, 1) := by decide +kernel
theorem dX8_set_23 : decode cX8_set 23 = .ok (.invokevirtual 116, 3) := by decide +kernel
theorem dX8_set_26 : decode cX8_set 26 = .ok (.iload_n 3, 1) := by decide +kernel
theorem dX8_set_27 : decode cX8_set 27 = .ok (.if_icmp .ne 9, 3) := by decide +kernel
theorem dX8_set_30 : decode cX8_set 30 = .ok (.aload_n 0, 1) := by decide +kernel
theorem dX8_set_31 : decode cX8_set 31 = .ok (.iconst 5, 1) := by decide +kernel
theorem dX8_set_32 : decode cX8_set 32 = .ok (.invokevirtual 173, 3) := by decide +kernel
theorem dX8_set_35 : decode cX8_set 35 = .ok (.ireturn, 1) := by decide +kernel
theorem dX8_set_36 : decode cX8_set 36 = .ok (.aload_n 0, 1) := by decide +kernel
theorem dX8_set_37 : decode cX8_set 37 = .ok (.invokevirtual 269, 3) := by decide +kernel
theorem dX8_set_40 : decode cX8_set 40 = .ok (.aload_n 0, 1) := by decide +kernel
theorem dX8_set_41 : decode cX8_set 41 = .ok (.iload_n 1, 1) := by decide +kernel
theorem dX8_set_42 : decode cX8_set 42 = .ok (.iload_n 2, 1) := by decide +kernel
theorem dX8_set_43 : decode cX8_set 43 = .ok (.iload_n 3, 1) := by decide +kernel
theorem dX8_set_44 : decode cX8_set 44 = .ok (.invokevirtual 147, 3) := by decide +kernel
theorem dX8_set_47 : decode cX8_set 47 = .ok (.aload_n 0, 1) := by decide +kernel
theorem dX8_set_48 : decode cX8_set 48 = .ok (.aload_n 0, 1) := by decide +kernel
theorem dX8_set_49 : decode cX8_set 49 = .ok (.iload_n 1, 1) := by decide +kernel
theorem dX8_set_50 : decode cX8_set 50 = .ok (.invokevirtual 199, 3) := by decide +kernel
theorem dX8_set_53 : decode cX8_set 53 = .ok (.invokevirtual 189, 3) := by decide +kernel
theorem dX8_set_56 : decode cX8_set 56 = .ok (.ireturn, 1) := by decide +kernel
theorem dX8_holesBy_0 : decode cX8_holesBy 0 = .ok (.iconst 0, 1) := by decide +kernel
theorem dX8_holesBy_1 : decode cX8_holesBy 1 = .ok (.istore 4, 2) := by decide +kernel
theorem dX8_holesBy_3 : decode cX8_holesBy 3 = .ok (.iconst 0, 1) := by decide +kernel
theorem dX8_holesBy_4 : decode cX8_holesBy 4 = .ok (.istore 5, 2) := by decide +kernel
theorem dX8_holesBy_6 : decode cX8_holesBy 6 = .ok (.iload 5, 2) := by decide +kernel
theorem dX8_holesBy_8 : decode cX8_holesBy 8 = .ok (.aload_n 0, 1) := by decide +kernel
theorem dX8_holesBy_9 : decode cX8_holesBy 9 = .ok (.iload_n 1, 1) := by decide +kernel
theorem dX8_holesBy_10 : decode cX8_holesBy 10 = .ok (.invokevirtual 113, 3) := by decide +kernel
theorem dX8_holesBy_13 : decode cX8_holesBy 13 = .ok (.if_icmp .ge 41, 3) := by decide +kernel
theorem dX8_holesBy_16 : decode cX8_holesBy 16 = .ok (.iload 4, 2) := by decide +kernel
theorem dX8_holesBy_18 : decode cX8_holesBy 18 = .ok (.aload_n 0, 1) := by decide +kernel
theorem dX8_holesBy_19 : decode cX8_holesBy 19 = .ok (.getfield 30, 3) := by decide +kernel
theorem dX8_holesBy_22 : decode cX8_holesBy 22 = .ok (.iload 5, 2) := by decide +kernel
theorem dX8_holesBy_24 : decode cX8_holesBy 24 = .ok (.iaload, 1) := by decide +kernel
theorem dX8_holesBy_25 : decode cX8_holesBy 25 = .ok (.ifCond .ne 19, 3) := by decide +kernel
theorem dX8_holesBy_28 : decode cX8_holesBy 28 = .ok (.aload_n 0, 1) := by decide +kernel
theorem dX8_holesBy_29 : decode cX8_holesBy 29 = .ok (.iload_n 1, 1) := by decide +kernel
theorem dX8_holesBy_30 : decode cX8_holesBy 30 = .ok (.iload_n 2, 1) := by decide +kernel
theorem dX8_holesBy_31 : decode cX8_holesBy 31 = .ok (.iload 5, 2) := by decide +kernel
theorem dX8_holesBy_33 : decode cX8_holesBy 33 = .ok (.invokevirtual 195, 3) := by decide +kernel
theorem dX8_holesBy_36 : decode cX8_holesBy 36 = .ok (.iload_n 3, 1) := by decide +kernel
theorem dX8_holesBy_37 : decode cX8_holesBy 37 = .ok (.if_icmp .gt 7, 3) := by decide +kernel
theorem dX8_holesBy_40 : decode cX8_holesBy 40 = .ok (.iconst 1, 1) := by decide +kernel
theorem dX8_holesBy_41 : decode cX8_holesBy 41 = .ok (.goto 4, 3) := by decide +kernel
theorem dX8_holesBy_44 : decode cX8_holesBy 44 = .ok (.iconst 0, 1) := by decide +kernel
theorem dX8_holesBy_45 : decode cX8_holesBy 45 = .ok (.iadd, 1) := by decide +kernel
theorem dX8_holesBy_46 : decode cX8_holesBy 46 = .ok (.istore 4, 2) := by decide +kernel
theorem dX8_holesBy_48 : decode cX8_holesBy 48 = .ok (.iinc 5 1, 3) := by decide +kernel
theorem dX8_holesBy_51 : decode cX8_holesBy 51 = .ok (.goto (-45), 3) := by decide +kernel
theorem dX8_holesBy_54 : decode cX8_holesBy 54 = .ok (.iload 4, 2) := by decide +kernel
theorem dX8_holesBy_56 : decode cX8_holesBy 56 = .ok (.ireturn, 1) := by decide +kernel
theorem dX8_greedy_0 : decode cX8_greedy 0 = .ok (.aload_n 0, 1) := by decide +kernel
theorem dX8_greedy_1 : decode cX8_greedy 1 = .ok (.iconst 0, 1) := by decide +kernel
theorem dX8_greedy_2 : decode cX8_greedy 2 = .ok (.putfield 42, 3) := by decide +kernel
theorem dX8_greedy_5 : decode cX8_greedy 5 = .ok (.aload_n 0, 1) := by decide +kernel
theorem dX8_greedy_6 : decode cX8_greedy 6 = .ok (.iload_n 1, 1) := by decide +kernel
theorem dX8_greedy_7 : decode cX8_greedy 7 = .ok (.invokevirtual 192, 3) := by decide +kernel
theorem dX8_greedy_10 : decode cX8_greedy 10 = .ok (.ifCond .ne 9, 3) := by decide +kernel
theorem dX8_greedy_13 : decode cX8_greedy 13 = .ok (.aload_n 0, 1) := by decide +kernel
theorem dX8_greedy_14 : decode cX8_greedy 14 = .ok (.iconst 1, 1) := by decide +kernel
theorem dX8_greedy_15 : decode cX8_greedy 15 = .ok (.invokevirtual 173, 3) := by decide +kernel
theorem dX8_greedy_18 : decode cX8_greedy 18 = .ok (.ireturn, 1) := by decide +kernel
theorem dX8_greedy_19 : decode cX8_greedy 19 = .ok (.iload_n 2, 1) := by decide +kernel
theorem dX8_greedy_20 : decode cX8_greedy 20 = .ok (.invokestatic 223, 3) := by decide +kernel
theorem dX8_greedy_23 : decode cX8_greedy 23 = .ok (.ifCond .ne 9, 3) := by decide +kernel
theorem dX8_greedy_26 : decode cX8_greedy 26 = .ok (.aload_n 0, 1) := by decide +kernel
theorem dX8_greedy_27 : decode cX8_greedy 27 = .ok (.iconst 2, 1) := by decide +kernel
theorem dX8_greedy_28 : decode cX8_greedy 28 = .ok (.invokevirtual 173, 3) := by decide +kernel
theorem dX8_greedy_31 : decode cX8_greedy 31 = .ok (.ireturn, 1) := by decide +kernel
theorem dX8_greedy_32 : decode cX8_greedy 32 = .ok (.aload_n 0, 1) := by decide +kernel
theorem dX8_greedy_33 : decode cX8_greedy 33 = .ok (.invokevirtual 269, 3) := by decide +kernel
theorem dX8_greedy_36 : decode cX8_greedy 36 = .ok (.iconst 0, 1) := by decide +kernel
theorem dX8_greedy_37 : decode cX8_greedy 37 = .ok (.istore_n 3, 1) := by decide +kernel
theorem dX8_greedy_38 : decode cX8_greedy 38 = .ok (.aload_n 0, 1) := by decide +kernel
theorem dX8_greedy_39 : decode cX8_greedy 39 = .ok (.iload_n 1, 1) := by decide +kernel
theorem dX8_greedy_40 : decode cX8_greedy 40 = .ok (.iload_n 2, 1) := by decide +kernel
theorem dX8_greedy_41 : decode cX8_greedy 41 = .ok (.invokevirtual 202, 3) := by decide +kernel
theorem dX8_greedy_44 : decode cX8_greedy 44 = .ok (.ifCond .le 62, 3) := by decide +kernel
theorem dX8_greedy_47 : decode cX8_greedy 47 = .ok (.iconst 0, 1) := by decide +kernel
theorem dX8_greedy_48 : decode cX8_greedy 48 = .ok (.istore 4, 2) := by decide +kernel
theorem dX8_greedy_50 : decode cX8_greedy 50 = .ok (.iconst 1, 1) := by decide +kernel
theorem dX8_greedy_51 : decode cX8_greedy 51 = .ok (.istore 5, 2) := by decide +kernel
theorem dX8_greedy_53 : decode cX8_greedy 53 = .ok (.iload 5, 2) := by decide +kernel
theorem dX8_greedy_55 : decode cX8_greedy 55 = .ok (.aload_n 0, 1) := by decide +kernel
theorem dX8_greedy_56 : decode cX8_greedy 56 = .ok (.iload_n 1, 1) := by decide +kernel
theorem dX8_greedy_57 : decode cX8_greedy 57 = .ok (.invokevirtual 113, 3) := by decide +kernel
theorem dX8_greedy_60 : decode cX8_greedy 60 = .ok (.if_icmp .ge 32, 3) := by decide +kernel
theorem dX8_greedy_63 : decode cX8_greedy 63 = .ok (.aload_n 0, 1) := by decide +kernel
theorem dX8_greedy_64 : decode cX8_greedy 64 = .ok (.iload_n 1, 1) := by decide +kernel
theorem dX8_greedy_65 : decode cX8_greedy 65 = .ok (.iload 5, 2) := by decide +kernel
theorem dX8_greedy_67 : decode cX8_greedy 67 = .ok (.iload_n 2, 1) := by decide +kernel
theorem dX8_greedy_68 : decode cX8_greedy 68 = .ok (.invokevirtual 272, 3) := by decide +kernel
theorem dX8_greedy_71 : decode cX8_greedy 71 = .ok (.aload_n 0, 1) := by decide +kernel
theorem dX8_greedy_72 : decode cX8_greedy 72 = .ok (.iload_n 1, 1) := by decide +kernel
theorem dX8_greedy_73 : decode cX8_greedy 73 = .ok (.iload 4, 2) := by decide +kernel
theorem dX8_greedy_75 : decode cX8_greedy 75 = .ok (.iload_n 2, 1) := by decide +kernel
theorem dX8_greedy_76 : decode cX8_greedy 76 = .ok (.invokevirtual 272, 3) := by decide +kernel
theorem dX8_greedy_79 : decode cX8_greedy 79 = .ok (.if_icmp .le 7, 3) := by decide +kernel
theorem dX8_greedy_82 : decode cX8_greedy 82 = .ok (.iload 5, 2) := by decide +kernel
theorem dX8_greedy_84 : decode cX8_greedy 84 = .ok (.istore 4, 2) := by decide +kernel
theorem dX8_greedy_86 : decode cX8_greedy 86 = .ok (.iinc 5 1, 3) := by decide +kernel
theorem dX8_greedy_89 : decode cX8_greedy 89 = .ok (.goto (-36), 3) := by decide +kernel
theorem dX8_greedy_92 : decode cX8_greedy 92 = .ok (.aload_n 0, 1) := by decide +kernel
theorem dX8_greedy_93 : decode cX8_greedy 93 = .ok (.iload_n 1, 1) := by decide +kernel
theorem dX8_greedy_94 : decode cX8_greedy 94 = .ok (.iload 4, 2) := by decide +kernel
theorem dX8_greedy_96 : decode cX8_greedy 96 = .ok (.iconst 1, 1) := by decide +kernel
theorem dX8_greedy_97 : decode cX8_greedy 97 = .ok (.invokevirtual 147, 3) := by decide +kernel
theorem dX8_greedy_100 : decode cX8_greedy 100 = .ok (.iinc 3 1, 3) := by decide +kernel
theorem dX8_greedy_103 : decode cX8_greedy 103 = .ok (.goto (-65), 3) := by decide +kernel
theorem dX8_greedy_106 : decode cX8_greedy 106 = .ok (.aload_n 0, 1) := by decide +kernel
theorem dX8_greedy_107 : decode cX8_greedy 107 = .ok (.iload_n 3, 1) := by decide +kernel
theorem dX8_greedy_108 : decode cX8_greedy 108 = .ok (.invokevirtual 189, 3) := by decide +kernel
theorem dX8_greedy_111 : decode cX8_greedy 111 = .ok (.ireturn, 1) := by decide +kernel
theorem dX8_thin_0 : decode cX8_thin 0 = .ok (.aload_n 0, 1) := by decide +kernel
theorem dX8_thin_1 : decode cX8_thin 1 = .ok (.iconst 0, 1) := by decide +kernel
theorem dX8_thin_2 : decode cX8_thin 2 = .ok (.putfield 42, 3) := by decide +kernel
theorem dX8_thin_5 : decode cX8_thin 5 = .ok (.aload_n 0, 1) := by decide +kernel
theorem dX8_thin_6 : decode cX8_thin 6 = .ok (.iload_n 1, 1) := by decide +kernel
theorem dX8_thin_7 : decode cX8_thin 7 = .ok (.invokevirtual 192, 3) := by decide +kernel
theorem dX8_thin_10 : decode cX8_thin 10 = .ok (.ifCond .ne 9, 3) := by decide +kernel
theorem dX8_thin_13 : decode cX8_thin 13 = .ok (.aload_n 0, 1) := by decide +kernel
theorem dX8_thin_14 : decode cX8_thin 14 = .ok (.iconst 1, 1) := by decide +kernel
theorem dX8_thin_15 : decode cX8_thin 15 = .ok (.invokevirtual 173, 3) := by decide +kernel
theorem dX8_thin_18 : decode cX8_thin 18 = .ok (.ireturn, 1) := by decide +kernel
theorem dX8_thin_19 : decode cX8_thin 19 = .ok (.iload_n 2, 1) := by decide +kernel
theorem dX8_thin_20 : decode cX8_thin 20 = .ok (.invokestatic 223, 3) := by decide +kernel
theorem dX8_thin_23 : decode cX8_thin 23 = .ok (.ifCond .ne 9, 3) := by decide +kernel
theorem dX8_thin_26 : decode cX8_thin 26 = .ok (.aload_n 0, 1) := by decide +kernel
theorem dX8_thin_27 : decode cX8_thin 27 = .ok (.iconst 2, 1) := by decide +kernel
theorem dX8_thin_28 : decode cX8_thin 28 = .ok (.invokevirtual 173, 3) := by decide +kernel
theorem dX8_thin_31 : decode cX8_thin 31 = .ok (.ireturn, 1) := by decide +kernel
theorem dX8_thin_32 : decode cX8_thin 32 = .ok (.aload_n 0, 1) := by decide +kernel
theorem dX8_thin_33 : decode cX8_thin 33 = .ok (.invokevirtual 269, 3) := by decide +kernel
theorem dX8_thin_36 : decode cX8_thin 36 = .ok (.iconst 0, 1) := by decide +kernel
theorem dX8_thin_37 : decode cX8_thin 37 = .ok (.istore_n 3, 1) := by decide +kernel
theorem dX8_thin_38 : decode cX8_thin 38 = .ok (.aload_n 0, 1) := by decide +kernel
theorem dX8_thin_39 : decode cX8_thin 39 = .ok (.iload_n 1, 1) := by decide +kernel
theorem dX8_thin_40 : decode cX8_thin 40 = .ok (.invokevirtual 113, 3) := by decide +kernel
theorem dX8_thin_43 : decode cX8_thin 43 = .ok (.iconst 1, 1) := by decide +kernel
theorem dX8_thin_44 : decode cX8_thin 44 = .ok (.isub, 1) := by decide +kernel
theorem dX8_thin_45 : decode cX8_thin 45 = .ok (.istore 4, 2) := by decide +kernel
theorem dX8_thin_47 : decode cX8_thin 47 = .ok (.iload 4, 2) := by decide +kernel
theorem dX8_thin_49 : decode cX8_thin 49 = .ok (.ifCond .lt 62, 3) := by decide +kernel
theorem dX8_thin_52 : decode cX8_thin 52 = .ok (.aload_n 0, 1) := by decide +kernel
theorem dX8_thin_53 : decode cX8_thin 53 = .ok (.iload_n 1, 1) := by decide +kernel
theorem dX8_thin_54 : decode cX8_thin 54 = .ok (.iload 4, 2) := by decide +kernel
theorem dX8_thin_56 : decode cX8_thin 56 = .ok (.invokevirtual 116, 3) := by decide +kernel
theorem dX8_thin_59 : decode cX8_thin 59 = .ok (.ifCond .eq 12, 3) := by decide +kernel
theorem dX8_thin_62 : decode cX8_thin 62 = .ok (.aload_n 0, 1) := by decide +kernel
theorem dX8_thin_63 : decode cX8_thin 63 = .ok (.iload_n 1, 1) := by decide +kernel
theorem dX8_thin_64 : decode cX8_thin 64 = .ok (.iload_n 2, 1) := by decide +kernel
theorem dX8_thin_65 : decode cX8_thin 65 = .ok (.invokevirtual 202, 3) := by decide +kernel
theorem dX8_thin_68 : decode cX8_thin 68 = .ok (.goto 4, 3) := by decide +kernel
theorem dX8_thin_71 : decode cX8_thin 71 = .ok (.iconst (-1), 1) := by decide +kernel
theorem dX8_thin_72 : decode cX8_thin 72 = .ok (.istore 5, 2) := by decide +kernel
theorem dX8_thin_74 : decode cX8_thin 74 = .ok (.iload 5, 2) := by decide +kernel
theorem dX8_thin_76 : decode cX8_thin 76 = .ok (.iconst (-1), 1) := by decide +kernel
theorem dX8_thin_77 : decode cX8_thin 77 = .ok (.if_icmp .eq 28, 3) := by decide +kernel
theorem dX8_thin_80 : decode cX8_thin 80 = .ok (.aload_n 0, 1) := by decide +kernel
theorem dX8_thin_81 : decode cX8_thin 81 = .ok (.iload_n 1, 1) := by decide +kernel
theorem dX8_thin_82 : decode cX8_thin 82 = .ok (.iload 4, 2) := by decide +kernel
theorem dX8_thin_84 : decode cX8_thin 84 = .ok (.iload_n 2, 1) := by decide +kernel
theorem dX8_thin_85 : decode cX8_thin 85 = .ok (.invokevirtual 229, 3) := by decide +kernel
theorem dX8_thin_88 : decode cX8_thin 88 = .ok (.ifCond .ne 6, 3) := by decide +kernel
theorem dX8_thin_91 : decode cX8_thin 91 = .ok (.goto 14, 3) := by decide +kernel
theorem dX8_thin_94 : decode cX8_thin 94 = .ok (.aload_n 0, 1) := by decide +kernel
theorem dX8_thin_95 : decode cX8_thin 95 = .ok (.iload_n 1, 1) := by decide +kernel
theorem dX8_thin_96 : decode cX8_thin 96 = .ok (.iload 4, 2) := by decide +kernel
theorem dX8_thin_98 : decode cX8_thin 98 = .ok (.iconst 0, 1) := by decide +kernel
theorem dX8_thin_99 : decode cX8_thin 99 = .ok (.invokevirtual 147, 3) := by decide +kernel
theorem dX8_thin_102 : decode cX8_thin 102 = .ok (.iinc 3 1, 3) := by decide +kernel
theorem dX8_thin_105 : decode cX8_thin 105 = .ok (.iinc 4 (-1), 3) := by decide +kernel
theorem dX8_thin_108 : decode cX8_thin 108 = .ok (.goto (-61), 3) := by decide +kernel
theorem dX8_thin_111 : decode cX8_thin 111 = .ok (.aload_n 0, 1) := by decide +kernel
theorem dX8_thin_112 : decode cX8_thin 112 = .ok (.iload_n 3, 1) := by decide +kernel
theorem dX8_thin_113 : decode cX8_thin 113 = .ok (.invokevirtual 189, 3) := by decide +kernel
theorem dX8_thin_116 : decode cX8_thin 116 = .ok (.ireturn, 1) := by decide +kernel
theorem dX8_holesIf_0 : decode cX8_holesIf 0 = .ok (.iconst 0, 1) := by decide +kernel
theorem dX8_holesIf_1 : decode cX8_holesIf 1 = .ok (.istore 5, 2) := by decide +kernel
theorem dX8_holesIf_3 : decode cX8_holesIf 3 = .ok (.iconst 0, 1) := by decide +kernel
theorem dX8_holesIf_4 : decode cX8_holesIf 4 = .ok (.istore 6, 2) := by decide +kernel
theorem dX8_holesIf_6 : decode cX8_holesIf 6 = .ok (.iload 6, 2) := by decide +kernel
theorem dX8_holesIf_8 : decode cX8_holesIf 8 = .ok (.aload_n 0, 1) := by decide +kernel
theorem dX8_holesIf_9 : decode cX8_holesIf 9 = .ok (.iload_n 1, 1) := by decide +kernel
theorem dX8_holesIf_10 : decode cX8_holesIf 10 = .ok (.invokevirtual 113, 3) := by decide +kernel
theorem dX8_holesIf_13 : decode cX8_holesIf 13 = .ok (.if_icmp .ge 71, 3) := by decide +kernel
theorem dX8_holesIf_16 : decode cX8_holesIf 16 = .ok (.aload_n 0, 1) := by decide +kernel
theorem dX8_holesIf_17 : decode cX8_holesIf 17 = .ok (.getfield 30, 3) := by decide +kernel
theorem dX8_holesIf_20 : decode cX8_holesIf 20 = .ok (.iload 6, 2) := by decide +kernel
theorem dX8_holesIf_22 : decode cX8_holesIf 22 = .ok (.iaload, 1) := by decide +kernel
theorem dX8_holesIf_23 : decode cX8_holesIf 23 = .ok (.aload_n 0, 1) := by decide +kernel
theorem dX8_holesIf_24 : decode cX8_holesIf 24 = .ok (.iload_n 1, 1) := by decide +kernel
theorem dX8_holesIf_25 : decode cX8_holesIf 25 = .ok (.iload_n 2, 1) := by decide +kernel
theorem dX8_holesIf_26 : decode cX8_holesIf 26 = .ok (.iload 6, 2) := by decide +kernel
theorem dX8_holesIf_28 : decode cX8_holesIf 28 = .ok (.invokevirtual 195, 3) := by decide +kernel
theorem dX8_holesIf_31 : decode cX8_holesIf 31 = .ok (.iload 4, 2) := by decide +kernel
theorem dX8_holesIf_33 : decode cX8_holesIf 33 = .ok (.if_icmp .gt 7, 3) := by decide +kernel
theorem dX8_holesIf_36 : decode cX8_holesIf 36 = .ok (.iconst 1, 1) := by decide +kernel
theorem dX8_holesIf_37 : decode cX8_holesIf 37 = .ok (.goto 4, 3) := by decide +kernel
theorem dX8_holesIf_40 : decode cX8_holesIf 40 = .ok (.iconst 0, 1) := by decide +kernel
theorem dX8_holesIf_41 : decode cX8_holesIf 41 = .ok (.isub, 1) := by decide +kernel
theorem dX8_holesIf_42 : decode cX8_holesIf 42 = .ok (.aload_n 0, 1) := by decide +kernel
theorem dX8_holesIf_43 : decode cX8_holesIf 43 = .ok (.iload_n 1, 1) := by decide +kernel
theorem dX8_holesIf_44 : decode cX8_holesIf 44 = .ok (.iload_n 3, 1) := by decide +kernel
theorem dX8_holesIf_45 : decode cX8_holesIf 45 = .ok (.iload 6, 2) := by decide +kernel
theorem dX8_holesIf_47 : decode cX8_holesIf 47 = .ok (.invokevirtual 195, 3) := by decide +kernel
theorem dX8_holesIf_50 : decode cX8_holesIf 50 = .ok (.iload 4, 2) := by decide +kernel
theorem dX8_holesIf_52 : decode cX8_holesIf 52 = .ok (.if_icmp .gt 7, 3) := by decide +kernel
theorem dX8_holesIf_55 : decode cX8_holesIf 55 = .ok (.iconst 1, 1) := by decide +kernel
theorem dX8_holesIf_56 : decode cX8_holesIf 56 = .ok (.goto 4, 3) := by decide +kernel
theorem dX8_holesIf_59 : decode cX8_holesIf 59 = .ok (.iconst 0, 1) := by decide +kernel
theorem dX8_holesIf_60 : decode cX8_holesIf 60 = .ok (.iadd, 1) := by decide +kernel
theorem dX8_holesIf_61 : decode cX8_holesIf 61 = .ok (.istore 7, 2) := by decide +kernel
theorem dX8_holesIf_63 : decode cX8_holesIf 63 = .ok (.iload 5, 2) := by decide +kernel
theorem dX8_holesIf_65 : decode cX8_holesIf 65 = .ok (.iload 7, 2) := by decide +kernel
theorem dX8_holesIf_67 : decode cX8_holesIf 67 = .ok (.ifCond .ne 7, 3) := by decide +kernel
theorem dX8_holesIf_70 : decode cX8_holesIf 70 = .ok (.iconst 1, 1) := by decide +kernel
theorem dX8_holesIf_71 : decode cX8_holesIf 71 = .ok (.goto 4, 3) := by decide +kernel
theorem dX8_holesIf_74 : decode cX8_holesIf 74 = .ok (.iconst 0, 1) := by decide +kernel
theorem dX8_holesIf_75 : decode cX8_holesIf 75 = .ok (.iadd, 1) := by decide +kernel
theorem dX8_holesIf_76 : decode cX8_holesIf 76 = .ok (.istore 5, 2) := by decide +kernel
theorem dX8_holesIf_78 : decode cX8_holesIf 78 = .ok (.iinc 6 1, 3) := by decide +kernel
theorem dX8_holesIf_81 : decode cX8_holesIf 81 = .ok (.goto (-75), 3) := by decide +kernel
theorem dX8_holesIf_84 : decode cX8_holesIf 84 = .ok (.iload 5, 2) := by decide +kernel
theorem dX8_holesIf_86 : decode cX8_holesIf 86 = .ok (.ireturn, 1) := by decide +kernel
theorem dX8_better_0 : decode cX8_better 0 = .ok (.aload_n 0, 1) := by decide +kernel
theorem dX8_better_1 : decode cX8_better 1 = .ok (.iconst 0, 1) := by decide +kernel
theorem dX8_better_2 : decode cX8_better 2 = .ok (.putfield 42, 3) := by decide +kernel
theorem dX8_better_5 : decode cX8_better 5 = .ok (.aload_n 0, 1) := by decide +kernel
theorem dX8_better_6 : decode cX8_better 6 = .ok (.iload_n 1, 1) := by decide +kernel
theorem dX8_better_7 : decode cX8_better 7 = .ok (.invokevirtual 192, 3) := by decide +kernel
theorem dX8_better_10 : decode cX8_better 10 = .ok (.ifCond .ne 9, 3) := by decide +kernel
theorem dX8_better_13 : decode cX8_better 13 = .ok (.aload_n 0, 1) := by decide +kernel
theorem dX8_better_14 : decode cX8_better 14 = .ok (.iconst 1, 1) := by decide +kernel
theorem dX8_better_15 : decode cX8_better 15 = .ok (.invokevirtual 173, 3) := by decide +kernel
theorem dX8_better_18 : decode cX8_better 18 = .ok (.ireturn, 1) := by decide +kernel
theorem dX8_better_19 : decode cX8_better 19 = .ok (.iload_n 2, 1) := by decide +kernel
theorem dX8_better_20 : decode cX8_better 20 = .ok (.invokestatic 223, 3) := by decide +kernel
theorem dX8_better_23 : decode cX8_better 23 = .ok (.ifCond .ne 9, 3) := by decide +kernel
theorem dX8_better_26 : decode cX8_better 26 = .ok (.aload_n 0, 1) := by decide +kernel
theorem dX8_better_27 : decode cX8_better 27 = .ok (.iconst 2, 1) := by decide +kernel
theorem dX8_better_28 : decode cX8_better 28 = .ok (.invokevirtual 173, 3) := by decide +kernel
theorem dX8_better_31 : decode cX8_better 31 = .ok (.ireturn, 1) := by decide +kernel
theorem dX8_better_32 : decode cX8_better 32 = .ok (.aload_n 0, 1) := by decide +kernel
theorem dX8_better_33 : decode cX8_better 33 = .ok (.iload_n 1, 1) := by decide +kernel
theorem dX8_better_34 : decode cX8_better 34 = .ok (.invokevirtual 113, 3) := by decide +kernel
theorem dX8_better_37 : decode cX8_better 37 = .ok (.bipush 81, 2) := by decide +kernel
theorem dX8_better_39 : decode cX8_better 39 = .ok (.if_icmp .le 9, 3) := by decide +kernel
theorem dX8_better_42 : decode cX8_better 42 = .ok (.aload_n 0, 1) := by decide +kernel
theorem dX8_better_43 : decode cX8_better 43 = .ok (.iconst 5, 1) := by decide +kernel
theorem dX8_better_44 : decode cX8_better 44 = .ok (.invokevirtual 173, 3) := by decide +kernel
theorem dX8_better_47 : decode cX8_better 47 = .ok (.ireturn, 1) := by decide +kernel
theorem dX8_better_48 : decode cX8_better 48 = .ok (.aload_n 0, 1) := by decide +kernel
theorem dX8_better_49 : decode cX8_better 49 = .ok (.invokevirtual 269, 3) := by decide +kernel
theorem dX8_better_52 : decode cX8_better 52 = .ok (.iconst 0, 1) := by decide +kernel
theorem dX8_better_53 : decode cX8_better 53 = .ok (.istore_n 3, 1) := by decide +kernel
theorem dX8_better_54 : decode cX8_better 54 = .ok (.iconst 1, 1) := by decide +kernel
theorem dX8_better_55 : decode cX8_better 55 = .ok (.istore 4, 2) := by decide +kernel
theorem dX8_better_57 : decode cX8_better 57 = .ok (.iload 4, 2) := by decide +kernel
theorem dX8_better_59 : decode cX8_better 59 = .ok (.ifCond .eq 161, 3) := by decide +kernel
theorem dX8_better_62 : decode cX8_better 62 = .ok (.iload_n 3, 1) := by decide +kernel
theorem dX8_better_63 : decode cX8_better 63 = .ok (.bipush 99, 2) := by decide +kernel
theorem dX8_better_65 : decode cX8_better 65 = .ok (.if_icmp .ge 155, 3) := by decide +kernel
theorem dX8_better_68 : decode cX8_better 68 = .ok (.aload_n 0, 1) := by decide +kernel
theorem dX8_better_69 : decode cX8_better 69 = .ok (.iload_n 1, 1) := by decide +kernel
theorem dX8_better_70 : decode cX8_better 70 = .ok (.iload_n 2, 1) := by decide +kernel
theorem dX8_better_71 : decode cX8_better 71 = .ok (.invokevirtual 202, 3) := by decide +kernel
theorem dX8_better_74 : decode cX8_better 74 = .ok (.istore 5, 2) := by decide +kernel
theorem dX8_better_76 : decode cX8_better 76 = .ok (.iconst (-1), 1) := by decide +kernel
theorem dX8_better_77 : decode cX8_better 77 = .ok (.istore 6, 2) := by decide +kernel
theorem dX8_better_79 : decode cX8_better 79 = .ok (.iconst (-1), 1) := by decide +kernel
theorem dX8_better_80 : decode cX8_better 80 = .ok (.istore 7, 2) := by decide +kernel
theorem dX8_better_82 : decode cX8_better 82 = .ok (.iconst 0, 1) := by decide +kernel
theorem dX8_better_83 : decode cX8_better 83 = .ok (.istore 8, 2) := by decide +kernel
theorem dX8_better_85 : decode cX8_better 85 = .ok (.iload 8, 2) := by decide +kernel
theorem dX8_better_87 : decode cX8_better 87 = .ok (.aload_n 0, 1) := by decide +kernel
theorem dX8_better_88 : decode cX8_better 88 = .ok (.iload_n 1, 1) := by decide +kernel
theorem dX8_better_89 : decode cX8_better 89 = .ok (.invokevirtual 113, 3) := by decide +kernel
theorem dX8_better_92 : decode cX8_better 92 = .ok (.if_icmp .ge 85, 3) := by decide +kernel
theorem dX8_better_95 : decode cX8_better 95 = .ok (.iconst 0, 1) := by decide +kernel
theorem dX8_better_96 : decode cX8_better 96 = .ok (.istore 9, 2) := by decide +kernel
theorem dX8_better_98 : decode cX8_better 98 = .ok (.iload 9, 2) := by decide +kernel
theorem dX8_better_100 : decode cX8_better 100 = .ok (.aload_n 0, 1) := by decide +kernel
theorem dX8_better_101 : decode cX8_better 101 = .ok (.iload_n 1, 1) := by decide +kernel
theorem dX8_better_102 : decode cX8_better 102 = .ok (.invokevirtual 113, 3) := by decide +kernel
theorem dX8_better_105 : decode cX8_better 105 = .ok (.if_icmp .ge 66, 3) := by decide +kernel
theorem dX8_better_108 : decode cX8_better 108 = .ok (.aload_n 0, 1) := by decide +kernel
theorem dX8_better_109 : decode cX8_better 109 = .ok (.iload_n 1, 1) := by decide +kernel
theorem dX8_better_110 : decode cX8_better 110 = .ok (.iload 8, 2) := by decide +kernel
theorem dX8_better_112 : decode cX8_better 112 = .ok (.invokevirtual 116, 3) := by decide +kernel
theorem dX8_better_115 : decode cX8_better 115 = .ok (.ifCond .eq 50, 3) := by decide +kernel
theorem dX8_better_118 : decode cX8_better 118 = .ok (.aload_n 0, 1) := by decide +kernel
theorem dX8_better_119 : decode cX8_better 119 = .ok (.iload_n 1, 1) := by decide +kernel
theorem dX8_better_120 : decode cX8_better 120 = .ok (.iload 9, 2) := by decide +kernel
theorem dX8_better_122 : decode cX8_better 122 = .ok (.invokevirtual 116, 3) := by decide +kernel
theorem dX8_better_125 : decode cX8_better 125 = .ok (.ifCond .eq 6, 3) := by decide +kernel
theorem dX8_better_128 : decode cX8_better 128 = .ok (.goto 37, 3) := by decide +kernel
theorem dX8_better_131 : decode cX8_better 131 = .ok (.aload_n 0, 1) := by decide +kernel
theorem dX8_better_132 : decode cX8_better 132 = .ok (.iload_n 1, 1) := by decide +kernel
theorem dX8_better_133 : decode cX8_better 133 = .ok (.iload 8, 2) := by decide +kernel
theorem dX8_better_135 : decode cX8_better 135 = .ok (.iload 9, 2) := by decide +kernel
theorem dX8_better_137 : decode cX8_better 137 = .ok (.iload_n 2, 1) := by decide +kernel
theorem dX8_better_138 : decode cX8_better 138 = .ok (.invokevirtual 275, 3) := by decide +kernel
theorem dX8_better_141 : decode cX8_better 141 = .ok (.istore 10, 2) := by decide +kernel
theorem dX8_better_143 : decode cX8_better 143 = .ok (.iload 10, 2) := by decide +kernel
theorem dX8_better_145 : decode cX8_better 145 = .ok (.iload 5, 2) := by decide +kernel
theorem dX8_better_147 : decode cX8_better 147 = .ok (.if_icmp .lt 6, 3) := by decide +kernel
theorem dX8_better_150 : decode cX8_better 150 = .ok (.goto 15, 3) := by decide +kernel
theorem dX8_better_153 : decode cX8_better 153 = .ok (.iload 10, 2) := by decide +kernel
theorem dX8_better_155 : decode cX8_better 155 = .ok (.istore 5, 2) := by decide +kernel
theorem dX8_better_157 : decode cX8_better 157 = .ok (.iload 8, 2) := by decide +kernel
theorem dX8_better_159 : decode cX8_better 159 = .ok (.istore 6, 2) := by decide +kernel
theorem dX8_better_161 : decode cX8_better 161 = .ok (.iload 9, 2) := by decide +kernel
theorem dX8_better_163 : decode cX8_better 163 = .ok (.istore 7, 2) := by decide +kernel
theorem dX8_better_165 : decode cX8_better 165 = .ok (.iinc 9 1, 3) := by decide +kernel
theorem dX8_better_168 : decode cX8_better 168 = .ok (.goto (-70), 3) := by decide +kernel
theorem dX8_better_171 : decode cX8_better 171 = .ok (.iinc 8 1, 3) := by decide +kernel
theorem dX8_better_174 : decode cX8_better 174 = .ok (.goto (-89), 3) := by decide +kernel
theorem dX8_better_177 : decode cX8_better 177 = .ok (.iload 6, 2) := by decide +kernel
theorem dX8_better_179 : decode cX8_better 179 = .ok (.iconst (-1), 1) := by decide +kernel
theorem dX8_better_180 : decode cX8_better 180 = .ok (.if_icmp .eq 7, 3) := by decide +kernel
theorem dX8_better_183 : decode cX8_better 183 = .ok (.iconst 1, 1) := by decide +kernel
theorem dX8_better_184 : decode cX8_better 184 = .ok (.goto 4, 3) := by decide +kernel
theorem dX8_better_187 : decode cX8_better 187 = .ok (.iconst 0, 1) := by decide +kernel
theorem dX8_better_188 : decode cX8_better 188 = .ok (.istore 4, 2) := by decide +kernel
theorem dX8_better_190 : decode cX8_better 190 = .ok (.iload 4, 2) := by decide +kernel
theorem dX8_better_192 : decode cX8_better 192 = .ok (.ifCond .ne 6, 3) := by decide +kernel
theorem dX8_better_195 : decode cX8_better 195 = .ok (.goto (-138), 3) := by decide +kernel
theorem dX8_better_198 : decode cX8_better 198 = .ok (.aload_n 0, 1) := by decide +kernel
theorem dX8_better_199 : decode cX8_better 199 = .ok (.iload_n 1, 1) := by decide +kernel
theorem dX8_better_200 : decode cX8_better 200 = .ok (.iload 6, 2) := by decide +kernel
theorem dX8_better_202 : decode cX8_better 202 = .ok (.iconst 0, 1) := by decide +kernel
theorem dX8_better_203 : decode cX8_better 203 = .ok (.invokevirtual 147, 3) := by decide +kernel
theorem dX8_better_206 : decode cX8_better 206 = .ok (.aload_n 0, 1) := by decide +kernel
theorem dX8_better_207 : decode cX8_better 207 = .ok (.iload_n 1, 1) := by decide +kernel
theorem dX8_better_208 : decode cX8_better 208 = .ok (.iload 7, 2) := by decide +kernel
theorem dX8_better_210 : decode cX8_better 210 = .ok (.iconst 1, 1) := by decide +kernel
theorem dX8_better_211 : decode cX8_better 211 = .ok (.invokevirtual 147, 3) := by decide +kernel
theorem dX8_better_214 : decode cX8_better 214 = .ok (.iinc 3 1, 3) := by decide +kernel
theorem dX8_better_217 : decode cX8_better 217 = .ok (.goto (-160), 3) := by decide +kernel
theorem dX8_better_220 : decode cX8_better 220 = .ok (.aload_n 0, 1) := by decide +kernel
theorem dX8_better_221 : decode cX8_better 221 = .ok (.iload_n 3, 1) := by decide +kernel
theorem dX8_better_222 : decode cX8_better 222 = .ok (.invokevirtual 189, 3) := by decide +kernel
theorem dX8_better_225 : decode cX8_better 225 = .ok (.ireturn, 1) := by decide +kernel
theorem dX8_laysPlaces_0 : decode cX8_laysPlaces 0 = .ok (.iload_n 2, 1) := by decide +kernel
theorem dX8_laysPlaces_1 : decode cX8_laysPlaces 1 = .ok (.istore_n 3, 1) := by decide +kernel
theorem dX8_laysPlaces_2 : decode cX8_laysPlaces 2 = .ok (.iload_n 3, 1) := by decide +kernel
theorem dX8_laysPlaces_3 : decode cX8_laysPlaces 3 = .ok (.aload_n 0, 1) := by decide +kernel
theorem dX8_laysPlaces_4 : decode cX8_laysPlaces 4 = .ok (.iload_n 1, 1) := by decide +kernel
theorem dX8_laysPlaces_5 : decode cX8_laysPlaces 5 = .ok (.invokevirtual 105, 3) := by decide +kernel
theorem dX8_laysPlaces_8 : decode cX8_laysPlaces 8 = .ok (.if_icmp .ge 59, 3) := by decide +kernel
theorem dX8_laysPlaces_11 : decode cX8_laysPlaces 11 = .ok (.aload_n 0, 1) := by decide +kernel
theorem dX8_laysPlaces_12 : decode cX8_laysPlaces 12 = .ok (.bipush 12, 2) := by decide +kernel
theorem dX8_laysPlaces_14 : decode cX8_laysPlaces 14 = .ok (.invokevirtual 105, 3) := by decide +kernel
theorem dX8_laysPlaces_17 : decode cX8_laysPlaces 17 = .ok (.bipush 8, 2) := by decide +kernel
theorem dX8_laysPlaces_19 : decode cX8_laysPlaces 19 = .ok (.if_icmp .eq 22, 3) := by decide +kernel
theorem dX8_laysPlaces_22 : decode cX8_laysPlaces 22 = .ok (.aload_n 0, 1) := by decide +kernel
theorem dX8_laysPlaces_23 : decode cX8_laysPlaces 23 = .ok (.bipush 12, 2) := by decide +kernel
theorem dX8_laysPlaces_25 : decode cX8_laysPlaces 25 = .ok (.invokevirtual 113, 3) := by decide +kernel
theorem dX8_laysPlaces_28 : decode cX8_laysPlaces 28 = .ok (.aload_n 0, 1) := by decide +kernel
theorem dX8_laysPlaces_29 : decode cX8_laysPlaces 29 = .ok (.iload_n 1, 1) := by decide +kernel
theorem dX8_laysPlaces_30 : decode cX8_laysPlaces 30 = .ok (.iload_n 3, 1) := by decide +kernel
theorem dX8_laysPlaces_31 : decode cX8_laysPlaces 31 = .ok (.invokevirtual 109, 3) := by decide +kernel
theorem dX8_laysPlaces_34 : decode cX8_laysPlaces 34 = .ok (.imul, 1) := by decide +kernel
theorem dX8_laysPlaces_35 : decode cX8_laysPlaces 35 = .ok (.sipush 256, 3) := by decide +kernel
theorem dX8_laysPlaces_38 : decode cX8_laysPlaces 38 = .ok (.if_icmp .le 5, 3) := by decide +kernel
theorem dX8_laysPlaces_41 : decode cX8_laysPlaces 41 = .ok (.iconst 0, 1) := by decide +kernel
theorem dX8_laysPlaces_42 : decode cX8_laysPlaces 42 = .ok (.ireturn, 1) := by decide +kernel
theorem dX8_laysPlaces_43 : decode cX8_laysPlaces 43 = .ok (.aload_n 0, 1) := by decide +kernel
theorem dX8_laysPlaces_44 : decode cX8_laysPlaces 44 = .ok (.bipush 12, 2) := by decide +kernel
theorem dX8_laysPlaces_46 : decode cX8_laysPlaces 46 = .ok (.aload_n 0, 1) := by decide +kernel
theorem dX8_laysPlaces_47 : decode cX8_laysPlaces 47 = .ok (.iload_n 1, 1) := by decide +kernel
theorem dX8_laysPlaces_48 : decode cX8_laysPlaces 48 = .ok (.iload_n 3, 1) := by decide +kernel
theorem dX8_laysPlaces_49 : decode cX8_laysPlaces 49 = .ok (.invokevirtual 109, 3) := by decide +kernel
theorem dX8_laysPlaces_52 : decode cX8_laysPlaces 52 = .ok (.aload_n 0, 1) := by decide +kernel
theorem dX8_laysPlaces_53 : decode cX8_laysPlaces 53 = .ok (.iload_n 1, 1) := by decide +kernel
theorem dX8_laysPlaces_54 : decode cX8_laysPlaces 54 = .ok (.iload_n 3, 1) := by decide +kernel
theorem dX8_laysPlaces_55 : decode cX8_laysPlaces 55 = .ok (.invokevirtual 120, 3) := by decide +kernel
theorem dX8_laysPlaces_58 : decode cX8_laysPlaces 58 = .ok (.invokevirtual 140, 3) := by decide +kernel
theorem dX8_laysPlaces_61 : decode cX8_laysPlaces 61 = .ok (.iinc 3 1, 3) := by decide +kernel
theorem dX8_laysPlaces_64 : decode cX8_laysPlaces 64 = .ok (.goto (-62), 3) := by decide +kernel
theorem dX8_laysPlaces_67 : decode cX8_laysPlaces 67 = .ok (.iconst 1, 1) := by decide +kernel
theorem dX8_laysPlaces_68 : decode cX8_laysPlaces 68 = .ok (.ireturn, 1) := by decide +kernel
theorem dX8_sum_0 : decode cX8_sum 0 = .ok (.aload_n 0, 1) := by decide +kernel
theorem dX8_sum_1 : decode cX8_sum 1 = .ok (.iconst 0, 1) := by decide +kernel
theorem dX8_sum_2 : decode cX8_sum 2 = .ok (.putfield 42, 3) := by decide +kernel
theorem dX8_sum_5 : decode cX8_sum 5 = .ok (.iload_n 1, 1) := by decide +kernel
theorem dX8_sum_6 : decode cX8_sum 6 = .ok (.invokestatic 279, 3) := by decide +kernel
theorem dX8_sum_9 : decode cX8_sum 9 = .ok (.ifCond .eq 19, 3) := by decide +kernel
theorem dX8_sum_12 : decode cX8_sum 12 = .ok (.aload_n 0, 1) := by decide +kernel
theorem dX8_sum_13 : decode cX8_sum 13 = .ok (.iload_n 2, 1) := by decide +kernel
theorem dX8_sum_14 : decode cX8_sum 14 = .ok (.invokevirtual 192, 3) := by decide +kernel
theorem dX8_sum_17 : decode cX8_sum 17 = .ok (.ifCond .eq 11, 3) := by decide +kernel
theorem dX8_sum_20 : decode cX8_sum 20 = .ok (.aload_n 0, 1) := by decide +kernel
theorem dX8_sum_21 : decode cX8_sum 21 = .ok (.iload_n 3, 1) := by decide +kernel
theorem dX8_sum_22 : decode cX8_sum 22 = .ok (.invokevirtual 192, 3) := by decide +kernel
theorem dX8_sum_25 : decode cX8_sum 25 = .ok (.ifCond .ne 9, 3) := by decide +kernel
theorem dX8_sum_28 : decode cX8_sum 28 = .ok (.aload_n 0, 1) := by decide +kernel
theorem dX8_sum_29 : decode cX8_sum 29 = .ok (.iconst 1, 1) := by decide +kernel
theorem dX8_sum_30 : decode cX8_sum 30 = .ok (.invokevirtual 173, 3) := by decide +kernel
theorem dX8_sum_33 : decode cX8_sum 33 = .ok (.ireturn, 1) := by decide +kernel
theorem dX8_sum_34 : decode cX8_sum 34 = .ok (.aload_n 0, 1) := by decide +kernel
theorem dX8_sum_35 : decode cX8_sum 35 = .ok (.bipush 12, 2) := by decide +kernel
theorem dX8_sum_37 : decode cX8_sum 37 = .ok (.invokevirtual 158, 3) := by decide +kernel
theorem dX8_sum_40 : decode cX8_sum 40 = .ok (.aload_n 0, 1) := by decide +kernel
theorem dX8_sum_41 : decode cX8_sum 41 = .ok (.iload_n 2, 1) := by decide +kernel
theorem dX8_sum_42 : decode cX8_sum 42 = .ok (.iconst 0, 1) := by decide +kernel
theorem dX8_sum_43 : decode cX8_sum 43 = .ok (.invokevirtual 282, 3) := by decide +kernel
theorem dX8_sum_46 : decode cX8_sum 46 = .ok (.ifCond .eq 12, 3) := by decide +kernel
theorem dX8_sum_49 : decode cX8_sum 49 = .ok (.aload_n 0, 1) := by decide +kernel
theorem dX8_sum_50 : decode cX8_sum 50 = .ok (.iload_n 3, 1) := by decide +kernel
theorem dX8_sum_51 : decode cX8_sum 51 = .ok (.iconst 0, 1) := by decide +kernel
theorem dX8_sum_52 : decode cX8_sum 52 = .ok (.invokevirtual 282, 3) := by decide +kernel
theorem dX8_sum_55 : decode cX8_sum 55 = .ok (.ifCond .ne 9, 3) := by decide +kernel
theorem dX8_sum_58 : decode cX8_sum 58 = .ok (.aload_n 0, 1) := by decide +kernel
theorem dX8_sum_59 : decode cX8_sum 59 = .ok (.iconst 3, 1) := by decide +kernel
theorem dX8_sum_60 : decode cX8_sum 60 = .ok (.invokevirtual 173, 3) := by decide +kernel
theorem dX8_sum_63 : decode cX8_sum 63 = .ok (.ireturn, 1) := by decide +kernel
theorem dX8_sum_64 : decode cX8_sum 64 = .ok (.aload_n 0, 1) := by decide +kernel
theorem dX8_sum_65 : decode cX8_sum 65 = .ok (.iload_n 3, 1) := by decide +kernel
theorem dX8_sum_66 : decode cX8_sum 66 = .ok (.invokevirtual 113, 3) := by decide +kernel
theorem dX8_sum_69 : decode cX8_sum 69 = .ok (.istore 4, 2) := by decide +kernel
theorem dX8_sum_71 : decode cX8_sum 71 = .ok (.iconst 0, 1) := by decide +kernel
theorem dX8_sum_72 : decode cX8_sum 72 = .ok (.istore 5, 2) := by decide +kernel
theorem dX8_sum_74 : decode cX8_sum 74 = .ok (.iload 5, 2) := by decide +kernel
theorem dX8_sum_76 : decode cX8_sum 76 = .ok (.aload_n 0, 1) := by decide +kernel
theorem dX8_sum_77 : decode cX8_sum 77 = .ok (.iload_n 2, 1) := by decide +kernel
theorem dX8_sum_78 : decode cX8_sum 78 = .ok (.invokevirtual 113, 3) := by decide +kernel
theorem dX8_sum_81 : decode cX8_sum 81 = .ok (.if_icmp .ge 64, 3) := by decide +kernel
theorem dX8_sum_84 : decode cX8_sum 84 = .ok (.iconst 0, 1) := by decide +kernel
theorem dX8_sum_85 : decode cX8_sum 85 = .ok (.istore 6, 2) := by decide +kernel
theorem dX8_sum_87 : decode cX8_sum 87 = .ok (.iload 6, 2) := by decide +kernel
theorem dX8_sum_89 : decode cX8_sum 89 = .ok (.iload 4, 2) := by decide +kernel
theorem dX8_sum_91 : decode cX8_sum 91 = .ok (.if_icmp .ge 48, 3) := by decide +kernel
theorem dX8_sum_94 : decode cX8_sum 94 = .ok (.aload_n 0, 1) := by decide +kernel
theorem dX8_sum_95 : decode cX8_sum 95 = .ok (.bipush 12, 2) := by decide +kernel
theorem dX8_sum_97 : decode cX8_sum 97 = .ok (.iload 5, 2) := by decide +kernel
theorem dX8_sum_99 : decode cX8_sum 99 = .ok (.iload 4, 2) := by decide +kernel
theorem dX8_sum_101 : decode cX8_sum 101 = .ok (.imul, 1) := by decide +kernel
theorem dX8_sum_102 : decode cX8_sum 102 = .ok (.iload 6, 2) := by decide +kernel
theorem dX8_sum_104 : decode cX8_sum 104 = .ok (.iadd, 1) := by decide +kernel
theorem dX8_sum_105 : decode cX8_sum 105 = .ok (.aload_n 0, 1) := by decide +kernel
theorem dX8_sum_106 : decode cX8_sum 106 = .ok (.iload_n 2, 1) := by decide +kernel
theorem dX8_sum_107 : decode cX8_sum 107 = .ok (.iload 5, 2) := by decide +kernel
theorem dX8_sum_109 : decode cX8_sum 109 = .ok (.invokevirtual 116, 3) := by decide +kernel
theorem dX8_sum_112 : decode cX8_sum 112 = .ok (.ifCond .eq 17, 3) := by decide +kernel
theorem dX8_sum_115 : decode cX8_sum 115 = .ok (.aload_n 0, 1) := by decide +kernel
theorem dX8_sum_116 : decode cX8_sum 116 = .ok (.iload_n 3, 1) := by decide +kernel
theorem dX8_sum_117 : decode cX8_sum 117 = .ok (.iload 6, 2) := by decide +kernel
theorem dX8_sum_119 : decode cX8_sum 119 = .ok (.invokevirtual 116, 3) := by decide +kernel
theorem dX8_sum_122 : decode cX8_sum 122 = .ok (.ifCond .eq 7, 3) := by decide +kernel
theorem dX8_sum_125 : decode cX8_sum 125 = .ok (.iconst 1, 1) := by decide +kernel
theorem dX8_sum_126 : decode cX8_sum 126 = .ok (.goto 4, 3) := by decide +kernel
theorem dX8_sum_129 : decode cX8_sum 129 = .ok (.iconst 0, 1) := by decide +kernel
theorem dX8_sum_130 : decode cX8_sum 130 = .ok (.invokevirtual 147, 3) := by decide +kernel
theorem dX8_sum_133 : decode cX8_sum 133 = .ok (.iinc 6 1, 3) := by decide +kernel
theorem dX8_sum_136 : decode cX8_sum 136 = .ok (.goto (-49), 3) := by decide +kernel
theorem dX8_sum_139 : decode cX8_sum 139 = .ok (.iinc 5 1, 3) := by decide +kernel
theorem dX8_sum_142 : decode cX8_sum 142 = .ok (.goto (-68), 3) := by decide +kernel
theorem dX8_sum_145 : decode cX8_sum 145 = .ok (.aload_n 0, 1) := by decide +kernel
theorem dX8_sum_146 : decode cX8_sum 146 = .ok (.iload_n 1, 1) := by decide +kernel
