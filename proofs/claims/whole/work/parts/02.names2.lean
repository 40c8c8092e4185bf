theorem dX5_advance_137 : decode cX5_advance 137 = .ok (.aload_n 0, 1) := by decide +kernel
theorem dX5_advance_138 : decode cX5_advance 138 = .ok (.aload_n 0, 1) := by decide +kernel
theorem dX5_advance_139 : decode cX5_advance 139 = .ok (.invokevirtual 160, 3) := by decide +kernel
theorem dX5_advance_142 : decode cX5_advance 142 = .ok (.putfield 44, 3) := by decide +kernel
theorem dX5_advance_145 : decode cX5_advance 145 = .ok (.aload_n 0, 1) := by decide +kernel
theorem dX5_advance_146 : decode cX5_advance 146 = .ok (.aload_n 0, 1) := by decide +kernel
theorem dX5_advance_147 : decode cX5_advance 147 = .ok (.getfield 44, 3) := by decide +kernel
theorem dX5_advance_150 : decode cX5_advance 150 = .ok (.aload_n 0, 1) := by decide +kernel
theorem dX5_advance_151 : decode cX5_advance 151 = .ok (.getfield 106, 3) := by decide +kernel
theorem dX5_advance_154 : decode cX5_advance 154 = .ok (.isub, 1) := by decide +kernel
theorem dX5_advance_155 : decode cX5_advance 155 = .ok (.bipush 8, 2) := by decide +kernel
theorem dX5_advance_157 : decode cX5_advance 157 = .ok (.if_icmp .gt 7, 3) := by decide +kernel
theorem dX5_advance_160 : decode cX5_advance 160 = .ok (.iconst 2, 1) := by decide +kernel
theorem dX5_advance_161 : decode cX5_advance 161 = .ok (.goto 4, 3) := by decide +kernel
theorem dX5_advance_164 : decode cX5_advance 164 = .ok (.iconst 4, 1) := by decide +kernel
theorem dX5_advance_165 : decode cX5_advance 165 = .ok (.putfield 57, 3) := by decide +kernel
theorem dX5_advance_168 : decode cX5_advance 168 = .ok (.goto 37, 3) := by decide +kernel
theorem dX5_advance_171 : decode cX5_advance 171 = .ok (.aload_n 0, 1) := by decide +kernel
theorem dX5_advance_172 : decode cX5_advance 172 = .ok (.aload_n 0, 1) := by decide +kernel
theorem dX5_advance_173 : decode cX5_advance 173 = .ok (.getfield 106, 3) := by decide +kernel
theorem dX5_advance_176 : decode cX5_advance 176 = .ok (.iconst 1, 1) := by decide +kernel
theorem dX5_advance_177 : decode cX5_advance 177 = .ok (.iadd, 1) := by decide +kernel
theorem dX5_advance_178 : decode cX5_advance 178 = .ok (.putfield 44, 3) := by decide +kernel
theorem dX5_advance_181 : decode cX5_advance 181 = .ok (.aload_n 0, 1) := by decide +kernel
theorem dX5_advance_182 : decode cX5_advance 182 = .ok (.aload_n 0, 1) := by decide +kernel
theorem dX5_advance_183 : decode cX5_advance 183 = .ok (.getfield 11, 3) := by decide +kernel
theorem dX5_advance_186 : decode cX5_advance 186 = .ok (.aload_n 0, 1) := by decide +kernel
theorem dX5_advance_187 : decode cX5_advance 187 = .ok (.getfield 106, 3) := by decide +kernel
theorem dX5_advance_190 : decode cX5_advance 190 = .ok (.iaload, 1) := by decide +kernel
theorem dX5_advance_191 : decode cX5_advance 191 = .ok (.invokestatic 163, 3) := by decide +kernel
theorem dX5_advance_194 : decode cX5_advance 194 = .ok (.ifCond .eq 7, 3) := by decide +kernel
theorem dX5_advance_197 : decode cX5_advance 197 = .ok (.iconst 3, 1) := by decide +kernel
theorem dX5_advance_198 : decode cX5_advance 198 = .ok (.goto 4, 3) := by decide +kernel
theorem dX5_advance_201 : decode cX5_advance 201 = .ok (.iconst 4, 1) := by decide +kernel
theorem dX5_advance_202 : decode cX5_advance 202 = .ok (.putfield 57, 3) := by decide +kernel
theorem dX5_advance_205 : decode cX5_advance 205 = .ok (.return_, 1) := by decide +kernel
theorem dX5_endOfLetters_0 : decode cX5_endOfLetters 0 = .ok (.aload_n 0, 1) := by decide +kernel
theorem dX5_endOfLetters_1 : decode cX5_endOfLetters 1 = .ok (.getfield 106, 3) := by decide +kernel
theorem dX5_endOfLetters_4 : decode cX5_endOfLetters 4 = .ok (.istore_n 1, 1) := by decide +kernel
theorem dX5_endOfLetters_5 : decode cX5_endOfLetters 5 = .ok (.iload_n 1, 1) := by decide +kernel
theorem dX5_endOfLetters_6 : decode cX5_endOfLetters 6 = .ok (.aload_n 0, 1) := by decide +kernel
theorem dX5_endOfLetters_7 : decode cX5_endOfLetters 7 = .ok (.getfield 41, 3) := by decide +kernel
theorem dX5_endOfLetters_10 : decode cX5_endOfLetters 10 = .ok (.if_icmp .ge 21, 3) := by decide +kernel
theorem dX5_endOfLetters_13 : decode cX5_endOfLetters 13 = .ok (.aload_n 0, 1) := by decide +kernel
theorem dX5_endOfLetters_14 : decode cX5_endOfLetters 14 = .ok (.getfield 11, 3) := by decide +kernel
theorem dX5_endOfLetters_17 : decode cX5_endOfLetters 17 = .ok (.iload_n 1, 1) := by decide +kernel
theorem dX5_endOfLetters_18 : decode cX5_endOfLetters 18 = .ok (.iaload, 1) := by decide +kernel
theorem dX5_endOfLetters_19 : decode cX5_endOfLetters 19 = .ok (.invokestatic 151, 3) := by decide +kernel
theorem dX5_endOfLetters_22 : decode cX5_endOfLetters 22 = .ok (.ifCond .eq 9, 3) := by decide +kernel
theorem dX5_endOfLetters_25 : decode cX5_endOfLetters 25 = .ok (.iinc 1 1, 3) := by decide +kernel
theorem dX5_endOfLetters_28 : decode cX5_endOfLetters 28 = .ok (.goto (-23), 3) := by decide +kernel
theorem dX5_endOfLetters_31 : decode cX5_endOfLetters 31 = .ok (.iload_n 1, 1) := by decide +kernel
theorem dX5_endOfLetters_32 : decode cX5_endOfLetters 32 = .ok (.ireturn, 1) := by decide +kernel
theorem dX5_endOfNumerals_0 : decode cX5_endOfNumerals 0 = .ok (.aload_n 0, 1) := by decide +kernel
theorem dX5_endOfNumerals_1 : decode cX5_endOfNumerals 1 = .ok (.getfield 106, 3) := by decide +kernel
theorem dX5_endOfNumerals_4 : decode cX5_endOfNumerals 4 = .ok (.istore_n 1, 1) := by decide +kernel
theorem dX5_endOfNumerals_5 : decode cX5_endOfNumerals 5 = .ok (.iload_n 1, 1) := by decide +kernel
theorem dX5_endOfNumerals_6 : decode cX5_endOfNumerals 6 = .ok (.aload_n 0, 1) := by decide +kernel
theorem dX5_endOfNumerals_7 : decode cX5_endOfNumerals 7 = .ok (.getfield 41, 3) := by decide +kernel
theorem dX5_endOfNumerals_10 : decode cX5_endOfNumerals 10 = .ok (.if_icmp .ge 21, 3) := by decide +kernel
theorem dX5_endOfNumerals_13 : decode cX5_endOfNumerals 13 = .ok (.aload_n 0, 1) := by decide +kernel
theorem dX5_endOfNumerals_14 : decode cX5_endOfNumerals 14 = .ok (.getfield 11, 3) := by decide +kernel
theorem dX5_endOfNumerals_17 : decode cX5_endOfNumerals 17 = .ok (.iload_n 1, 1) := by decide +kernel
theorem dX5_endOfNumerals_18 : decode cX5_endOfNumerals 18 = .ok (.iaload, 1) := by decide +kernel
theorem dX5_endOfNumerals_19 : decode cX5_endOfNumerals 19 = .ok (.invokestatic 157, 3) := by decide +kernel
theorem dX5_endOfNumerals_22 : decode cX5_endOfNumerals 22 = .ok (.ifCond .eq 9, 3) := by decide +kernel
theorem dX5_endOfNumerals_25 : decode cX5_endOfNumerals 25 = .ok (.iinc 1 1, 3) := by decide +kernel
theorem dX5_endOfNumerals_28 : decode cX5_endOfNumerals 28 = .ok (.goto (-23), 3) := by decide +kernel
theorem dX5_endOfNumerals_31 : decode cX5_endOfNumerals 31 = .ok (.iload_n 1, 1) := by decide +kernel
theorem dX5_endOfNumerals_32 : decode cX5_endOfNumerals 32 = .ok (.ireturn, 1) := by decide +kernel
theorem dX5_isLetter_0 : decode cX5_isLetter 0 = .ok (.iload_n 0, 1) := by decide +kernel
theorem dX5_isLetter_1 : decode cX5_isLetter 1 = .ok (.bipush 97, 2) := by decide +kernel
theorem dX5_isLetter_3 : decode cX5_isLetter 3 = .ok (.if_icmp .lt 13, 3) := by decide +kernel
theorem dX5_isLetter_6 : decode cX5_isLetter 6 = .ok (.iload_n 0, 1) := by decide +kernel
theorem dX5_isLetter_7 : decode cX5_isLetter 7 = .ok (.bipush 122, 2) := by decide +kernel
theorem dX5_isLetter_9 : decode cX5_isLetter 9 = .ok (.if_icmp .gt 7, 3) := by decide +kernel
theorem dX5_isLetter_12 : decode cX5_isLetter 12 = .ok (.iconst 1, 1) := by decide +kernel
theorem dX5_isLetter_13 : decode cX5_isLetter 13 = .ok (.goto 4, 3) := by decide +kernel
theorem dX5_isLetter_16 : decode cX5_isLetter 16 = .ok (.iconst 0, 1) := by decide +kernel
theorem dX5_isLetter_17 : decode cX5_isLetter 17 = .ok (.ireturn, 1) := by decide +kernel
theorem dX5_isNumeral_0 : decode cX5_isNumeral 0 = .ok (.iload_n 0, 1) := by decide +kernel
theorem dX5_isNumeral_1 : decode cX5_isNumeral 1 = .ok (.bipush 48, 2) := by decide +kernel
theorem dX5_isNumeral_3 : decode cX5_isNumeral 3 = .ok (.if_icmp .lt 13, 3) := by decide +kernel
theorem dX5_isNumeral_6 : decode cX5_isNumeral 6 = .ok (.iload_n 0, 1) := by decide +kernel
theorem dX5_isNumeral_7 : decode cX5_isNumeral 7 = .ok (.bipush 57, 2) := by decide +kernel
theorem dX5_isNumeral_9 : decode cX5_isNumeral 9 = .ok (.if_icmp .gt 7, 3) := by decide +kernel
theorem dX5_isNumeral_12 : decode cX5_isNumeral 12 = .ok (.iconst 1, 1) := by decide +kernel
theorem dX5_isNumeral_13 : decode cX5_isNumeral 13 = .ok (.goto 4, 3) := by decide +kernel
theorem dX5_isNumeral_16 : decode cX5_isNumeral 16 = .ok (.iconst 0, 1) := by decide +kernel
theorem dX5_isNumeral_17 : decode cX5_isNumeral 17 = .ok (.ireturn, 1) := by decide +kernel
theorem dX5_isMark_0 : decode cX5_isMark 0 = .ok (.iload_n 0, 1) := by decide +kernel
theorem dX5_isMark_1 : decode cX5_isMark 1 = .ok (.bipush 59, 2) := by decide +kernel
theorem dX5_isMark_3 : decode cX5_isMark 3 = .ok (.if_icmp .eq 15, 3) := by decide +kernel
theorem dX5_isMark_6 : decode cX5_isMark 6 = .ok (.iload_n 0, 1) := by decide +kernel
theorem dX5_isMark_7 : decode cX5_isMark 7 = .ok (.bipush 44, 2) := by decide +kernel
theorem dX5_isMark_9 : decode cX5_isMark 9 = .ok (.if_icmp .eq 9, 3) := by decide +kernel
theorem dX5_isMark_12 : decode cX5_isMark 12 = .ok (.iload_n 0, 1) := by decide +kernel
theorem dX5_isMark_13 : decode cX5_isMark 13 = .ok (.bipush 58, 2) := by decide +kernel
theorem dX5_isMark_15 : decode cX5_isMark 15 = .ok (.if_icmp .ne 7, 3) := by decide +kernel
theorem dX5_isMark_18 : decode cX5_isMark 18 = .ok (.iconst 1, 1) := by decide +kernel
theorem dX5_isMark_19 : decode cX5_isMark 19 = .ok (.goto 4, 3) := by decide +kernel
theorem dX5_isMark_22 : decode cX5_isMark 22 = .ok (.iconst 0, 1) := by decide +kernel
theorem dX5_isMark_23 : decode cX5_isMark 23 = .ok (.ireturn, 1) := by decide +kernel
theorem dX6_init_0 : decode cX6_init 0 = .ok (.aload_n 0, 1) := by decide +kernel
theorem dX6_init_1 : decode cX6_init 1 = .ok (.invokespecial 3, 3) := by decide +kernel
theorem dX6_init_4 : decode cX6_init 4 = .ok (.aload_n 0, 1) := by decide +kernel
theorem dX6_init_5 : decode cX6_init 5 = .ok (.new 9, 3) := by decide +kernel
theorem dX6_init_8 : decode cX6_init 8 = .ok (.dup, 1) := by decide +kernel
theorem dX6_init_9 : decode cX6_init 9 = .ok (.invokespecial 11, 3) := by decide +kernel
theorem dX6_init_12 : decode cX6_init 12 = .ok (.putfield 12, 3) := by decide +kernel
theorem dX6_init_15 : decode cX6_init 15 = .ok (.aload_n 0, 1) := by decide +kernel
theorem dX6_init_16 : decode cX6_init 16 = .ok (.bipush 8, 2) := by decide +kernel
theorem dX6_init_18 : decode cX6_init 18 = .ok (.newarray .int, 2) := by decide +kernel
theorem dX6_init_20 : decode cX6_init 20 = .ok (.putfield 18, 3) := by decide +kernel
theorem dX6_init_23 : decode cX6_init 23 = .ok (.return_, 1) := by decide +kernel
theorem dX6_run_0 : decode cX6_run 0 = .ok (.aload_n 0, 1) := by decide +kernel
theorem dX6_run_1 : decode cX6_run 1 = .ok (.getfield 12, 3) := by decide +kernel
theorem dX6_run_4 : decode cX6_run 4 = .ok (.aload_n 1, 1) := by decide +kernel
theorem dX6_run_5 : decode cX6_run 5 = .ok (.iload_n 2, 1) := by decide +kernel
theorem dX6_run_6 : decode cX6_run 6 = .ok (.invokevirtual 22, 3) := by decide +kernel
theorem dX6_run_9 : decode cX6_run 9 = .ok (.aload_n 0, 1) := by decide +kernel
theorem dX6_run_10 : decode cX6_run 10 = .ok (.iconst 0, 1) := by decide +kernel
theorem dX6_run_11 : decode cX6_run 11 = .ok (.putfield 26, 3) := by decide +kernel
theorem dX6_run_14 : decode cX6_run 14 = .ok (.aload_n 0, 1) := by decide +kernel
theorem dX6_run_15 : decode cX6_run 15 = .ok (.iconst 0, 1) := by decide +kernel
theorem dX6_run_16 : decode cX6_run 16 = .ok (.putfield 30, 3) := by decide +kernel
theorem dX6_run_19 : decode cX6_run 19 = .ok (.aload_n 0, 1) := by decide +kernel
theorem dX6_run_20 : decode cX6_run 20 = .ok (.iconst 0, 1) := by decide +kernel
theorem dX6_run_21 : decode cX6_run 21 = .ok (.putfield 33, 3) := by decide +kernel
theorem dX6_run_24 : decode cX6_run 24 = .ok (.iconst 1, 1) := by decide +kernel
theorem dX6_run_25 : decode cX6_run 25 = .ok (.istore_n 3, 1) := by decide +kernel
theorem dX6_run_26 : decode cX6_run 26 = .ok (.iload_n 3, 1) := by decide +kernel
theorem dX6_run_27 : decode cX6_run 27 = .ok (.bipush 8, 2) := by decide +kernel
theorem dX6_run_29 : decode cX6_run 29 = .ok (.if_icmp .gt 44, 3) := by decide +kernel
theorem dX6_run_32 : decode cX6_run 32 = .ok (.aload_n 0, 1) := by decide +kernel
theorem dX6_run_33 : decode cX6_run 33 = .ok (.iload_n 3, 1) := by decide +kernel
theorem dX6_run_34 : decode cX6_run 34 = .ok (.putfield 37, 3) := by decide +kernel
theorem dX6_run_37 : decode cX6_run 37 = .ok (.aload_n 0, 1) := by decide +kernel
theorem dX6_run_38 : decode cX6_run 38 = .ok (.iconst 0, 1) := by decide +kernel
theorem dX6_run_39 : decode cX6_run 39 = .ok (.aload_n 0, 1) := by decide +kernel
theorem dX6_run_40 : decode cX6_run 40 = .ok (.getfield 12, 3) := by decide +kernel
theorem dX6_run_43 : decode cX6_run 43 = .ok (.invokevirtual 40, 3) := by decide +kernel
theorem dX6_run_46 : decode cX6_run 46 = .ok (.aload_n 0, 1) := by decide +kernel
theorem dX6_run_47 : decode cX6_run 47 = .ok (.getfield 12, 3) := by decide +kernel
theorem dX6_run_50 : decode cX6_run 50 = .ok (.invokevirtual 44, 3) := by decide +kernel
theorem dX6_run_53 : decode cX6_run 53 = .ok (.invokevirtual 47, 3) := by decide +kernel
theorem dX6_run_56 : decode cX6_run 56 = .ok (.ifCond .ne 10, 3) := by decide +kernel
theorem dX6_run_59 : decode cX6_run 59 = .ok (.aload_n 0, 1) := by decide +kernel
theorem dX6_run_60 : decode cX6_run 60 = .ok (.getfield 33, 3) := by decide +kernel
theorem dX6_run_63 : decode cX6_run 63 = .ok (.ifCond .eq 4, 3) := by decide +kernel
theorem dX6_run_66 : decode cX6_run 66 = .ok (.return_, 1) := by decide +kernel
theorem dX6_run_67 : decode cX6_run 67 = .ok (.iinc 3 1, 3) := by decide +kernel
theorem dX6_run_70 : decode cX6_run 70 = .ok (.goto (-44), 3) := by decide +kernel
theorem dX6_run_73 : decode cX6_run 73 = .ok (.aload_n 0, 1) := by decide +kernel
theorem dX6_run_74 : decode cX6_run 74 = .ok (.iconst 1, 1) := by decide +kernel
theorem dX6_run_75 : decode cX6_run 75 = .ok (.putfield 33, 3) := by decide +kernel
theorem dX6_run_78 : decode cX6_run 78 = .ok (.return_, 1) := by decide +kernel
theorem dX6_told_0 : decode cX6_told 0 = .ok (.iload_n 1, 1) := by decide +kernel
theorem dX6_told_1 : decode cX6_told 1 = .ok (.iconst 1, 1) := by decide +kernel
theorem dX6_told_2 : decode cX6_told 2 = .ok (.if_icmp .ne 8, 3) := by decide +kernel
theorem dX6_told_5 : decode cX6_told 5 = .ok (.aload_n 0, 1) := by decide +kernel
theorem dX6_told_6 : decode cX6_told 6 = .ok (.getfield 30, 3) := by decide +kernel
theorem dX6_told_9 : decode cX6_told 9 = .ok (.ireturn, 1) := by decide +kernel
theorem dX6_told_10 : decode cX6_told 10 = .ok (.aload_n 0, 1) := by decide +kernel
theorem dX6_told_11 : decode cX6_told 11 = .ok (.getfield 33, 3) := by decide +kernel
theorem dX6_told_14 : decode cX6_told 14 = .ok (.ifCond .eq 6, 3) := by decide +kernel
theorem dX6_told_17 : decode cX6_told 17 = .ok (.bipush (-2), 2) := by decide +kernel
theorem dX6_told_19 : decode cX6_told 19 = .ok (.ireturn, 1) := by decide +kernel
theorem dX6_told_20 : decode cX6_told 20 = .ok (.iload_n 1, 1) := by decide +kernel
theorem dX6_told_21 : decode cX6_told 21 = .ok (.ifCond .ne 8, 3) := by decide +kernel
theorem dX6_told_24 : decode cX6_told 24 = .ok (.aload_n 0, 1) := by decide +kernel
theorem dX6_told_25 : decode cX6_told 25 = .ok (.getfield 26, 3) := by decide +kernel
theorem dX6_told_28 : decode cX6_told 28 = .ok (.ireturn, 1) := by decide +kernel
theorem dX6_told_29 : decode cX6_told 29 = .ok (.iload_n 1, 1) := by decide +kernel
theorem dX6_told_30 : decode cX6_told 30 = .ok (.iconst 2, 1) := by decide +kernel
theorem dX6_told_31 : decode cX6_told 31 = .ok (.isub, 1) := by decide +kernel
theorem dX6_told_32 : decode cX6_told 32 = .ok (.istore_n 2, 1) := by decide +kernel
theorem dX6_told_33 : decode cX6_told 33 = .ok (.iload_n 2, 1) := by decide +kernel
theorem dX6_told_34 : decode cX6_told 34 = .ok (.ifCond .lt 20, 3) := by decide +kernel
theorem dX6_told_37 : decode cX6_told 37 = .ok (.iload_n 2, 1) := by decide +kernel
theorem dX6_told_38 : decode cX6_told 38 = .ok (.aload_n 0, 1) := by decide +kernel
theorem dX6_told_39 : decode cX6_told 39 = .ok (.getfield 26, 3) := by decide +kernel
theorem dX6_told_42 : decode cX6_told 42 = .ok (.if_icmp .ge 12, 3) := by decide +kernel
theorem dX6_told_45 : decode cX6_told 45 = .ok (.aload_n 0, 1) := by decide +kernel
theorem dX6_told_46 : decode cX6_told 46 = .ok (.getfield 18, 3) := by decide +kernel
theorem dX6_told_49 : decode cX6_told 49 = .ok (.iload_n 2, 1) := by decide +kernel
theorem dX6_told_50 : decode cX6_told 50 = .ok (.iaload, 1) := by decide +kernel
theorem dX6_told_51 : decode cX6_told 51 = .ok (.goto 5, 3) := by decide +kernel
theorem dX6_told_54 : decode cX6_told 54 = .ok (.bipush (-2), 2) := by decide +kernel
theorem dX6_told_56 : decode cX6_told 56 = .ok (.ireturn, 1) := by decide +kernel
theorem dX6_seek_0 : decode cX6_seek 0 = .ok (.lload_n 2, 1) := by decide +kernel
theorem dX6_seek_1 : decode cX6_seek 1 = .ok (.lload 4, 2) := by decide +kernel
theorem dX6_seek_3 : decode cX6_seek 3 = .ok (.invokestatic 51, 3) := by decide +kernel
theorem dX6_seek_6 : decode cX6_seek 6 = .ok (.istore 6, 2) := by decide +kernel
theorem dX6_seek_8 : decode cX6_seek 8 = .ok (.iload 6, 2) := by decide +kernel
theorem dX6_seek_10 : decode cX6_seek 10 = .ok (.ifCond .ne 10, 3) := by decide +kernel
theorem dX6_seek_13 : decode cX6_seek 13 = .ok (.aload_n 0, 1) := by decide +kernel
theorem dX6_seek_14 : decode cX6_seek 14 = .ok (.iload_n 1, 1) := by decide +kernel
theorem dX6_seek_15 : decode cX6_seek 15 = .ok (.putfield 26, 3) := by decide +kernel
theorem dX6_seek_18 : decode cX6_seek 18 = .ok (.iconst 1, 1) := by decide +kernel
theorem dX6_seek_19 : decode cX6_seek 19 = .ok (.ireturn, 1) := by decide +kernel
theorem dX6_seek_20 : decode cX6_seek 20 = .ok (.aload_n 0, 1) := by decide +kernel
theorem dX6_seek_21 : decode cX6_seek 21 = .ok (.getfield 37, 3) := by decide +kernel
theorem dX6_seek_24 : decode cX6_seek 24 = .ok (.iload_n 1, 1) := by decide +kernel
theorem dX6_seek_25 : decode cX6_seek 25 = .ok (.isub, 1) := by decide +kernel
theorem dX6_seek_26 : decode cX6_seek 26 = .ok (.istore 7, 2) := by decide +kernel
theorem dX6_seek_28 : decode cX6_seek 28 = .ok (.iload_n 1, 1) := by decide +kernel
theorem dX6_seek_29 : decode cX6_seek 29 = .ok (.bipush 8, 2) := by decide +kernel
theorem dX6_seek_31 : decode cX6_seek 31 = .ok (.if_icmp .ge 23, 3) := by decide +kernel
theorem dX6_seek_34 : decode cX6_seek 34 = .ok (.iload 7, 2) := by decide +kernel
theorem dX6_seek_36 : decode cX6_seek 36 = .ok (.ifCond .le 18, 3) := by decide +kernel
theorem dX6_seek_39 : decode cX6_seek 39 = .ok (.iload 7, 2) := by decide +kernel
theorem dX6_seek_41 : decode cX6_seek 41 = .ok (.aload_n 0, 1) := by decide +kernel
theorem dX6_seek_42 : decode cX6_seek 42 = .ok (.getfield 12, 3) := by decide +kernel
theorem dX6_seek_45 : decode cX6_seek 45 = .ok (.getfield 55, 3) := by decide +kernel
theorem dX6_seek_48 : decode cX6_seek 48 = .ok (.imul, 1) := by decide +kernel
theorem dX6_seek_49 : decode cX6_seek 49 = .ok (.iload 6, 2) := by decide +kernel
theorem dX6_seek_51 : decode cX6_seek 51 = .ok (.if_icmp .ge 5, 3) := by decide +kernel
theorem dX6_seek_54 : decode cX6_seek 54 = .ok (.iconst 0, 1) := by decide +kernel
theorem dX6_seek_55 : decode cX6_seek 55 = .ok (.ireturn, 1) := by decide +kernel
theorem dX6_seek_56 : decode cX6_seek 56 = .ok (.lload_n 2, 1) := by decide +kernel
theorem dX6_seek_57 : decode cX6_seek 57 = .ok (.lload 4, 2) := by decide +kernel
theorem dX6_seek_59 : decode cX6_seek 59 = .ok (.invokestatic 58, 3) := by decide +kernel
theorem dX6_seek_62 : decode cX6_seek 62 = .ok (.istore 8, 2) := by decide +kernel
theorem dX6_seek_64 : decode cX6_seek 64 = .ok (.iload 8, 2) := by decide +kernel
theorem dX6_seek_66 : decode cX6_seek 66 = .ok (.aload_n 0, 1) := by decide +kernel
theorem dX6_seek_67 : decode cX6_seek 67 = .ok (.getfield 12, 3) := by decide +kernel
theorem dX6_seek_70 : decode cX6_seek 70 = .ok (.getfield 61, 3) := by decide +kernel
theorem dX6_seek_73 : decode cX6_seek 73 = .ok (.if_icmp .lt 5, 3) := by decide +kernel
theorem dX6_seek_76 : decode cX6_seek 76 = .ok (.iconst 0, 1) := by decide +kernel
theorem dX6_seek_77 : decode cX6_seek 77 = .ok (.ireturn, 1) := by decide +kernel
theorem dX6_seek_78 : decode cX6_seek 78 = .ok (.aload_n 0, 1) := by decide +kernel
theorem dX6_seek_79 : decode cX6_seek 79 = .ok (.getfield 12, 3) := by decide +kernel
theorem dX6_seek_82 : decode cX6_seek 82 = .ok (.getfield 64, 3) := by decide +kernel
theorem dX6_seek_85 : decode cX6_seek 85 = .ok (.iload 8, 2) := by decide +kernel
theorem dX6_seek_87 : decode cX6_seek 87 = .ok (.laload, 1) := by decide +kernel
theorem dX6_seek_88 : decode cX6_seek 88 = .ok (.lstore 9, 2) := by decide +kernel
theorem dX6_seek_90 : decode cX6_seek 90 = .ok (.aload_n 0, 1) := by decide +kernel
theorem dX6_seek_91 : decode cX6_seek 91 = .ok (.getfield 12, 3) := by decide +kernel
theorem dX6_seek_94 : decode cX6_seek 94 = .ok (.getfield 68, 3) := by decide +kernel
theorem dX6_seek_97 : decode cX6_seek 97 = .ok (.iload 8, 2) := by decide +kernel
theorem dX6_seek_99 : decode cX6_seek 99 = .ok (.laload, 1) := by decide +kernel
theorem dX6_seek_100 : decode cX6_seek 100 = .ok (.lstore 11, 2) := by decide +kernel
theorem dX6_seek_102 : decode cX6_seek 102 = .ok (.iconst 0, 1) := by decide +kernel
theorem dX6_seek_103 : decode cX6_seek 103 = .ok (.istore 13, 2) := by decide +kernel
theorem dX6_seek_105 : decode cX6_seek 105 = .ok (.iload 13, 2) := by decide +kernel
theorem dX6_seek_107 : decode cX6_seek 107 = .ok (.aload_n 0, 1) := by decide +kernel
theorem dX6_seek_108 : decode cX6_seek 108 = .ok (.getfield 12, 3) := by decide +kernel
theorem dX6_seek_111 : decode cX6_seek 111 = .ok (.getfield 55, 3) := by decide +kernel
theorem dX6_seek_114 : decode cX6_seek 114 = .ok (.if_icmp .ge 148, 3) := by decide +kernel
theorem dX6_seek_117 : decode cX6_seek 117 = .ok (.aload_n 0, 1) := by decide +kernel
theorem dX6_seek_118 : decode cX6_seek 118 = .ok (.getfield 30, 3) := by decide +kernel
theorem dX6_seek_121 : decode cX6_seek 121 = .ok (.ldc 71, 2) := by decide +kernel
theorem dX6_seek_123 : decode cX6_seek 123 = .ok (.if_icmp .lt 10, 3) := by decide +kernel
theorem dX6_seek_126 : decode cX6_seek 126 = .ok (.aload_n 0, 1) := by decide +kernel
theorem dX6_seek_127 : decode cX6_seek 127 = .ok (.iconst 1, 1) := by decide +kernel
theorem dX6_seek_128 : decode cX6_seek 128 = .ok (.putfield 33, 3) := by decide +kernel
theorem dX6_seek_131 : decode cX6_seek 131 = .ok (.iconst 0, 1) := by decide +kernel
theorem dX6_seek_132 : decode cX6_seek 132 = .ok (.ireturn, 1) := by decide +kernel
theorem dX6_seek_133 : decode cX6_seek 133 = .ok (.lload 9, 2) := by decide +kernel
theorem dX6_seek_135 : decode cX6_seek 135 = .ok (.lload 11, 2) := by decide +kernel
theorem dX6_seek_137 : decode cX6_seek 137 = .ok (.invokestatic 58, 3) := by decide +kernel
theorem dX6_seek_140 : decode cX6_seek 140 = .ok (.istore 14, 2) := by decide +kernel
theorem dX6_seek_142 : decode cX6_seek 142 = .ok (.iload 14, 2) := by decide +kernel
theorem dX6_seek_144 : decode cX6_seek 144 = .ok (.aload_n 0, 1) := by decide +kernel
theorem dX6_seek_145 : decode cX6_seek 145 = .ok (.getfield 12, 3) := by decide +kernel
theorem dX6_seek_148 : decode cX6_seek 148 = .ok (.getfield 61, 3) := by decide +kernel
theorem dX6_seek_151 : decode cX6_seek 151 = .ok (.if_icmp .lt 5, 3) := by decide +kernel
theorem dX6_seek_154 : decode cX6_seek 154 = .ok (.iconst 0, 1) := by decide +kernel
theorem dX6_seek_155 : decode cX6_seek 155 = .ok (.ireturn, 1) := by decide +kernel
theorem dX6_seek_156 : decode cX6_seek 156 = .ok (.lload 9, 2) := by decide +kernel
theorem dX6_seek_158 : decode cX6_seek 158 = .ok (.iload 14, 2) := by decide +kernel
theorem dX6_seek_160 : decode cX6_seek 160 = .ok (.invokestatic 72, 3) := by decide +kernel
theorem dX6_seek_163 : decode cX6_seek 163 = .ok (.ldc2_w 76, 3) := by decide +kernel
theorem dX6_seek_166 : decode cX6_seek 166 = .ok (.lxor, 1) := by decide +kernel
theorem dX6_seek_167 : decode cX6_seek 167 = .ok (.land, 1) := by decide +kernel
theorem dX6_seek_168 : decode cX6_seek 168 = .ok (.lstore 9, 2) := by decide +kernel
theorem dX6_seek_170 : decode cX6_seek 170 = .ok (.lload 11, 2) := by decide +kernel
theorem dX6_seek_172 : decode cX6_seek 172 = .ok (.iload 14, 2) := by decide +kernel
theorem dX6_seek_174 : decode cX6_seek 174 = .ok (.invokestatic 78, 3) := by decide +kernel
theorem dX6_seek_177 : decode cX6_seek 177 = .ok (.ldc2_w 76, 3) := by decide +kernel
theorem dX6_seek_180 : decode cX6_seek 180 = .ok (.lxor, 1) := by decide +kernel
theorem dX6_seek_181 : decode cX6_seek 181 = .ok (.land, 1) := by decide +kernel
theorem dX6_seek_182 : decode cX6_seek 182 = .ok (.lstore 11, 2) := by decide +kernel
theorem dX6_seek_184 : decode cX6_seek 184 = .ok (.aload_n 0, 1) := by decide +kernel
theorem dX6_seek_185 : decode cX6_seek 185 = .ok (.dup, 1) := by decide +kernel
theorem dX6_seek_186 : decode cX6_seek 186 = .ok (.getfield 30, 3) := by decide +kernel
theorem dX6_seek_189 : decode cX6_seek 189 = .ok (.iconst 1, 1) := by decide +kernel
theorem dX6_seek_190 : decode cX6_seek 190 = .ok (.iadd, 1) := by decide +kernel
theorem dX6_seek_191 : decode cX6_seek 191 = .ok (.putfield 30, 3) := by decide +kernel
theorem dX6_seek_194 : decode cX6_seek 194 = .ok (.aload_n 0, 1) := by decide +kernel
theorem dX6_seek_195 : decode cX6_seek 195 = .ok (.getfield 18, 3) := by decide +kernel
theorem dX6_seek_198 : decode cX6_seek 198 = .ok (.iload_n 1, 1) := by decide +kernel
theorem dX6_seek_199 : decode cX6_seek 199 = .ok (.iload 14, 2) := by decide +kernel
theorem dX6_seek_201 : decode cX6_seek 201 = .ok (.iastore, 1) := by decide +kernel
theorem dX6_seek_202 : decode cX6_seek 202 = .ok (.aload_n 0, 1) := by decide +kernel
theorem dX6_seek_203 : decode cX6_seek 203 = .ok (.iload_n 1, 1) := by decide +kernel
theorem dX6_seek_204 : decode cX6_seek 204 = .ok (.iconst 1, 1) := by decide +kernel
theorem dX6_seek_205 : decode cX6_seek 205 = .ok (.iadd, 1) := by decide +kernel
theorem dX6_seek_206 : decode cX6_seek 206 = .ok (.lload_n 2, 1) := by decide +kernel
theorem dX6_seek_207 : decode cX6_seek 207 = .ok (.aload_n 0, 1) := by decide +kernel
theorem dX6_seek_208 : decode cX6_seek 208 = .ok (.getfield 12, 3) := by decide +kernel
theorem dX6_seek_211 : decode cX6_seek 211 = .ok (.getfield 64, 3) := by decide +kernel
theorem dX6_seek_214 : decode cX6_seek 214 = .ok (.iload 14, 2) := by decide +kernel
theorem dX6_seek_216 : decode cX6_seek 216 = .ok (.laload, 1) := by decide +kernel
theorem dX6_seek_217 : decode cX6_seek 217 = .ok (.ldc2_w 76, 3) := by decide +kernel
theorem dX6_seek_220 : decode cX6_seek 220 = .ok (.lxor, 1) := by decide +kernel
theorem dX6_seek_221 : decode cX6_seek 221 = .ok (.land, 1) := by decide +kernel
theorem dX6_seek_222 : decode cX6_seek 222 = .ok (.lload 4, 2) := by decide +kernel
theorem dX6_seek_224 : decode cX6_seek 224 = .ok (.aload_n 0, 1) := by decide +kernel
theorem dX6_seek_225 : decode cX6_seek 225 = .ok (.getfield 12, 3) := by decide +kernel
theorem dX6_seek_228 : decode cX6_seek 228 = .ok (.getfield 68, 3) := by decide +kernel
theorem dX6_seek_231 : decode cX6_seek 231 = .ok (.iload 14, 2) := by decide +kernel
theorem dX6_seek_233 : decode cX6_seek 233 = .ok (.laload, 1) := by decide +kernel
theorem dX6_seek_234 : decode cX6_seek 234 = .ok (.ldc2_w 76, 3) := by decide +kernel
theorem dX6_seek_237 : decode cX6_seek 237 = .ok (.lxor, 1) := by decide +kernel
theorem dX6_seek_238 : decode cX6_seek 238 = .ok (.land, 1) := by decide +kernel
theorem dX6_seek_239 : decode cX6_seek 239 = .ok (.invokevirtual 47, 3) := by decide +kernel
theorem dX6_seek_242 : decode cX6_seek 242 = .ok (.ifCond .eq 5, 3) := by decide +kernel
theorem dX6_seek_245 : decode cX6_seek 245 = .ok (.iconst 1, 1) := by decide +kernel
theorem dX6_seek_246 : decode cX6_seek 246 = .ok (.ireturn, 1) := by decide +kernel
theorem dX6_seek_247 : decode cX6_seek 247 = .ok (.aload_n 0, 1) := by decide +kernel
theorem dX6_seek_248 : decode cX6_seek 248 = .ok (.getfield 33, 3) := by decide +kernel
theorem dX6_seek_251 : decode cX6_seek 251 = .ok (.ifCond .eq 5, 3) := by decide +kernel
theorem dX6_seek_254 : decode cX6_seek 254 = .ok (.iconst 0, 1) := by decide +kernel
theorem dX6_seek_255 : decode cX6_seek 255 = .ok (.ireturn, 1) := by decide +kernel
theorem dX6_seek_256 : decode cX6_seek 256 = .ok (.iinc 13 1, 3) := by decide +kernel
theorem dX6_seek_259 : decode cX6_seek 259 = .ok (.goto (-154), 3) := by decide +kernel
theorem dX6_seek_262 : decode cX6_seek 262 = .ok (.iconst 0, 1) := by decide +kernel
theorem dX6_seek_263 : decode cX6_seek 263 = .ok (.ireturn, 1) := by decide +kernel
theorem dX7_init_0 : decode cX7_init 0 = .ok (.aload_n 0, 1) := by decide +kernel
theorem dX7_init_1 : decode cX7_init 1 = .ok (.invokespecial 1, 3) := by decide +kernel
theorem dX7_init_4 : decode cX7_init 4 = .ok (.aload_n 0, 1) := by decide +kernel
theorem dX7_init_5 : decode cX7_init 5 = .ok (.new 7, 3) := by decide +kernel
theorem dX7_init_8 : decode cX7_init 8 = .ok (.dup, 1) := by decide +kernel
theorem dX7_init_9 : decode cX7_init 9 = .ok (.invokespecial 9, 3) := by decide +kernel
theorem dX7_init_12 : decode cX7_init 12 = .ok (.putfield 10, 3) := by decide +kernel
theorem dX7_init_15 : decode cX7_init 15 = .ok (.aload_n 0, 1) := by decide +kernel
theorem dX7_init_16 : decode cX7_init 16 = .ok (.bipush 8, 2) := by decide +kernel
theorem dX7_init_18 : decode cX7_init 18 = .ok (.anewarray 16, 3) := by decide +kernel
theorem dX7_init_21 : decode cX7_init 21 = .ok (.putfield 18, 3) := by decide +kernel
theorem dX7_init_24 : decode cX7_init 24 = .ok (.aload_n 0, 1) := by decide +kernel
theorem dX7_init_25 : decode cX7_init 25 = .ok (.new 16, 3) := by decide +kernel
theorem dX7_init_28 : decode cX7_init 28 = .ok (.dup, 1) := by decide +kernel
theorem dX7_init_29 : decode cX7_init 29 = .ok (.invokespecial 22, 3) := by decide +kernel
theorem dX7_init_32 : decode cX7_init 32 = .ok (.putfield 23, 3) := by decide +kernel
theorem dX7_init_35 : decode cX7_init 35 = .ok (.aload_n 0, 1) := by decide +kernel
theorem dX7_init_36 : decode cX7_init 36 = .ok (.new 27, 3) := by decide +kernel
theorem dX7_init_39 : decode cX7_init 39 = .ok (.dup, 1) := by decide +kernel
theorem dX7_init_40 : decode cX7_init 40 = .ok (.invokespecial 29, 3) := by decide +kernel
theorem dX7_init_43 : decode cX7_init 43 = .ok (.putfield 30, 3) := by decide +kernel
theorem dX7_init_46 : decode cX7_init 46 = .ok (.aload_n 0, 1) := by decide +kernel
theorem dX7_init_47 : decode cX7_init 47 = .ok (.new 34, 3) := by decide +kernel
theorem dX7_init_50 : decode cX7_init 50 = .ok (.dup, 1) := by decide +kernel
theorem dX7_init_51 : decode cX7_init 51 = .ok (.invokespecial 36, 3) := by decide +kernel
theorem dX7_init_54 : decode cX7_init 54 = .ok (.putfield 37, 3) := by decide +kernel
theorem dX7_init_57 : decode cX7_init 57 = .ok (.aload_n 0, 1) := by decide +kernel
theorem dX7_init_58 : decode cX7_init 58 = .ok (.new 41, 3) := by decide +kernel
theorem dX7_init_61 : decode cX7_init 61 = .ok (.dup, 1) := by decide +kernel
theorem dX7_init_62 : decode cX7_init 62 = .ok (.invokespecial 43, 3) := by decide +kernel
theorem dX7_init_65 : decode cX7_init 65 = .ok (.putfield 44, 3) := by decide +kernel
theorem dX7_init_68 : decode cX7_init 68 = .ok (.aload_n 0, 1) := by decide +kernel
theorem dX7_init_69 : decode cX7_init 69 = .ok (.new 48, 3) := by decide +kernel
theorem dX7_init_72 : decode cX7_init 72 = .ok (.dup, 1) := by decide +kernel
theorem dX7_init_73 : decode cX7_init 73 = .ok (.invokespecial 50, 3) := by decide +kernel
theorem dX7_init_76 : decode cX7_init 76 = .ok (.putfield 51, 3) := by decide +kernel
theorem dX7_init_79 : decode cX7_init 79 = .ok (.aload_n 0, 1) := by decide +kernel
theorem dX7_init_80 : decode cX7_init 80 = .ok (.iconst (-1), 1) := by decide +kernel
theorem dX7_init_81 : decode cX7_init 81 = .ok (.putfield 55, 3) := by decide +kernel
theorem dX7_init_84 : decode cX7_init 84 = .ok (.iconst 0, 1) := by decide +kernel
theorem dX7_init_85 : decode cX7_init 85 = .ok (.istore_n 1, 1) := by decide +kernel
theorem dX7_init_86 : decode cX7_init 86 = .ok (.iload_n 1, 1) := by decide +kernel
theorem dX7_init_87 : decode cX7_init 87 = .ok (.aload_n 0, 1) := by decide +kernel
theorem dX7_init_88 : decode cX7_init 88 = .ok (.getfield 18, 3) := by decide +kernel
theorem dX7_init_91 : decode cX7_init 91 = .ok (.arraylength, 1) := by decide +kernel
theorem dX7_init_92 : decode cX7_init 92 = .ok (.if_icmp .ge 22, 3) := by decide +kernel
theorem dX7_init_95 : decode cX7_init 95 = .ok (.aload_n 0, 1) := by decide +kernel
theorem dX7_init_96 : decode cX7_init 96 = .ok (.getfield 18, 3) := by decide +kernel
theorem dX7_init_99 : decode cX7_init 99 = .ok (.iload_n 1, 1) := by decide +kernel
theorem dX7_init_100 : decode cX7_init 100 = .ok (.new 16, 3) := by decide +kernel
theorem dX7_init_103 : decode cX7_init 103 = .ok (.dup, 1) := by decide +kernel
theorem dX7_init_104 : decode cX7_init 104 = .ok (.invokespecial 22, 3) := by decide +kernel
theorem dX7_init_107 : decode cX7_init 107 = .ok (.aastore, 1) := by decide +kernel
theorem dX7_init_108 : decode cX7_init 108 = .ok (.iinc 1 1, 3) := by decide +kernel
theorem dX7_init_111 : decode cX7_init 111 = .ok (.goto (-25), 3) := by decide +kernel
theorem dX7_init_114 : decode cX7_init 114 = .ok (.return_, 1) := by decide +kernel
theorem dX7_feed_0 : decode cX7_feed 0 = .ok (.aload_n 0, 1) := by decide +kernel
theorem dX7_feed_1 : decode cX7_feed 1 = .ok (.getfield 10, 3) := by decide +kernel
theorem dX7_feed_4 : decode cX7_feed 4 = .ok (.invokevirtual 59, 3) := by decide +kernel
theorem dX7_feed_7 : decode cX7_feed 7 = .ok (.ifCond .ne 5, 3) := by decide +kernel
theorem dX7_feed_10 : decode cX7_feed 10 = .ok (.iconst (-1), 1) := by decide +kernel
theorem dX7_feed_11 : decode cX7_feed 11 = .ok (.ireturn, 1) := by decide +kernel
theorem dX7_feed_12 : decode cX7_feed 12 = .ok (.aload_n 0, 1) := by decide +kernel
theorem dX7_feed_13 : decode cX7_feed 13 = .ok (.getfield 10, 3) := by decide +kernel
theorem dX7_feed_16 : decode cX7_feed 16 = .ok (.iload_n 1, 1) := by decide +kernel
theorem dX7_feed_17 : decode cX7_feed 17 = .ok (.invokevirtual 63, 3) := by decide +kernel
theorem dX7_feed_20 : decode cX7_feed 20 = .ok (.aload_n 0, 1) := by decide +kernel
theorem dX7_feed_21 : decode cX7_feed 21 = .ok (.getfield 10, 3) := by decide +kernel
theorem dX7_feed_24 : decode cX7_feed 24 = .ok (.iload_n 2, 1) := by decide +kernel
theorem dX7_feed_25 : decode cX7_feed 25 = .ok (.invokevirtual 63, 3) := by decide +kernel
theorem dX7_feed_28 : decode cX7_feed 28 = .ok (.aload_n 0, 1) := by decide +kernel
theorem dX7_feed_29 : decode cX7_feed 29 = .ok (.getfield 10, 3) := by decide +kernel
theorem dX7_feed_32 : decode cX7_feed 32 = .ok (.iload_n 3, 1) := by decide +kernel
theorem dX7_feed_33 : decode cX7_feed 33 = .ok (.invokevirtual 63, 3) := by decide +kernel
theorem dX7_feed_36 : decode cX7_feed 36 = .ok (.aload_n 0, 1) := by decide +kernel
theorem dX7_feed_37 : decode cX7_feed 37 = .ok (.getfield 10, 3) := by decide +kernel
theorem dX7_feed_40 : decode cX7_feed 40 = .ok (.iload 4, 2) := by decide +kernel
theorem dX7_feed_42 : decode cX7_feed 42 = .ok (.invokevirtual 63, 3) := by decide +kernel
theorem dX7_feed_45 : decode cX7_feed 45 = .ok (.aload_n 0, 1) := by decide +kernel
theorem dX7_feed_46 : decode cX7_feed 46 = .ok (.getfield 10, 3) := by decide +kernel
theorem dX7_feed_49 : decode cX7_feed 49 = .ok (.iload 5, 2) := by decide +kernel
theorem dX7_feed_51 : decode cX7_feed 51 = .ok (.invokevirtual 63, 3) := by decide +kernel
theorem dX7_feed_54 : decode cX7_feed 54 = .ok (.aload_n 0, 1) := by decide +kernel
theorem dX7_feed_55 : decode cX7_feed 55 = .ok (.getfield 10, 3) := by decide +kernel
theorem dX7_feed_58 : decode cX7_feed 58 = .ok (.getfield 67, 3) := by decide +kernel
theorem dX7_feed_61 : decode cX7_feed 61 = .ok (.ireturn, 1) := by decide +kernel
theorem dX7_text_0 : decode cX7_text 0 = .ok (.iload_n 1, 1) := by decide +kernel
theorem dX7_text_1 : decode cX7_text 1 = .ok (.ifCond .lt 14, 3) := by decide +kernel
theorem dX7_text_4 : decode cX7_text 4 = .ok (.iload_n 1, 1) := by decide +kernel
theorem dX7_text_5 : decode cX7_text 5 = .ok (.aload_n 0, 1) := by decide +kernel
theorem dX7_text_6 : decode cX7_text 6 = .ok (.getfield 10, 3) := by decide +kernel
theorem dX7_text_9 : decode cX7_text 9 = .ok (.getfield 67, 3) := by decide +kernel
theorem dX7_text_12 : decode cX7_text 12 = .ok (.if_icmp .le 9, 3) := by decide +kernel
theorem dX7_text_15 : decode cX7_text 15 = .ok (.aload_n 0, 1) := by decide +kernel
theorem dX7_text_16 : decode cX7_text 16 = .ok (.iconst 2, 1) := by decide +kernel
theorem dX7_text_17 : decode cX7_text 17 = .ok (.invokevirtual 70, 3) := by decide +kernel
theorem dX7_text_20 : decode cX7_text 20 = .ok (.ireturn, 1) := by decide +kernel
theorem dX7_text_21 : decode cX7_text 21 = .ok (.aload_n 0, 1) := by decide +kernel
theorem dX7_text_22 : decode cX7_text 22 = .ok (.getfield 10, 3) := by decide +kernel
theorem dX7_text_25 : decode cX7_text 25 = .ok (.iload_n 1, 1) := by decide +kernel
theorem dX7_text_26 : decode cX7_text 26 = .ok (.invokevirtual 74, 3) := by decide +kernel
theorem dX7_text_29 : decode cX7_text 29 = .ok (.istore_n 2, 1) := by decide +kernel
theorem dX7_text_30 : decode cX7_text 30 = .ok (.aload_n 0, 1) := by decide +kernel
theorem dX7_text_31 : decode cX7_text 31 = .ok (.getfield 10, 3) := by decide +kernel
theorem dX7_text_34 : decode cX7_text 34 = .ok (.iconst 0, 1) := by decide +kernel
theorem dX7_text_35 : decode cX7_text 35 = .ok (.putfield 67, 3) := by decide +kernel
theorem dX7_text_38 : decode cX7_text 38 = .ok (.aload_n 0, 1) := by decide +kernel
theorem dX7_text_39 : decode cX7_text 39 = .ok (.aload_n 0, 1) := by decide +kernel
theorem dX7_text_40 : decode cX7_text 40 = .ok (.getfield 10, 3) := by decide +kernel
theorem dX7_text_43 : decode cX7_text 43 = .ok (.getfield 78, 3) := by decide +kernel
theorem dX7_text_46 : decode cX7_text 46 = .ok (.putfield 81, 3) := by decide +kernel
theorem dX7_text_49 : decode cX7_text 49 = .ok (.iload_n 2, 1) := by decide +kernel
theorem dX7_text_50 : decode cX7_text 50 = .ok (.ifCond .ne 22, 3) := by decide +kernel
theorem dX7_text_53 : decode cX7_text 53 = .ok (.aload_n 0, 1) := by decide +kernel
theorem dX7_text_54 : decode cX7_text 54 = .ok (.iconst 4, 1) := by decide +kernel
theorem dX7_text_55 : decode cX7_text 55 = .ok (.invokevirtual 70, 3) := by decide +kernel
theorem dX7_text_58 : decode cX7_text 58 = .ok (.pop, 1) := by decide +kernel
theorem dX7_text_59 : decode cX7_text 59 = .ok (.aload_n 0, 1) := by decide +kernel
theorem dX7_text_60 : decode cX7_text 60 = .ok (.aload_n 0, 1) := by decide +kernel
theorem dX7_text_61 : decode cX7_text 61 = .ok (.getfield 10, 3) := by decide +kernel
theorem dX7_text_64 : decode cX7_text 64 = .ok (.getfield 84, 3) := by decide +kernel
theorem dX7_text_67 : decode cX7_text 67 = .ok (.putfield 55, 3) := by decide +kernel
theorem dX7_text_70 : decode cX7_text 70 = .ok (.iconst (-1), 1) := by decide +kernel
theorem dX7_text_71 : decode cX7_text 71 = .ok (.ireturn, 1) := by decide +kernel
theorem dX7_text_72 : decode cX7_text 72 = .ok (.iconst 0, 1) := by decide +kernel
theorem dX7_text_73 : decode cX7_text 73 = .ok (.istore_n 3, 1) := by decide +kernel
theorem dX7_text_74 : decode cX7_text 74 = .ok (.iload_n 3, 1) := by decide +kernel
theorem dX7_text_75 : decode cX7_text 75 = .ok (.bipush 8, 2) := by decide +kernel
theorem dX7_text_77 : decode cX7_text 77 = .ok (.if_icmp .ge 18, 3) := by decide +kernel
theorem dX7_text_80 : decode cX7_text 80 = .ok (.aload_n 0, 1) := by decide +kernel
theorem dX7_text_81 : decode cX7_text 81 = .ok (.getfield 18, 3) := by decide +kernel
theorem dX7_text_84 : decode cX7_text 84 = .ok (.iload_n 3, 1) := by decide +kernel
theorem dX7_text_85 : decode cX7_text 85 = .ok (.aaload, 1) := by decide +kernel
theorem dX7_text_86 : decode cX7_text 86 = .ok (.invokevirtual 87, 3) := by decide +kernel
theorem dX7_text_89 : decode cX7_text 89 = .ok (.iinc 3 1, 3) := by decide +kernel
theorem dX7_text_92 : decode cX7_text 92 = .ok (.goto (-18), 3) := by decide +kernel
theorem dX7_text_95 : decode cX7_text 95 = .ok (.aload_n 0, 1) := by decide +kernel
theorem dX7_text_96 : decode cX7_text 96 = .ok (.getfield 10, 3) := by decide +kernel
theorem dX7_text_99 : decode cX7_text 99 = .ok (.aload_n 0, 1) := by decide +kernel
theorem dX7_text_100 : decode cX7_text 100 = .ok (.getfield 18, 3) := by decide +kernel
theorem dX7_text_103 : decode cX7_text 103 = .ok (.invokevirtual 90, 3) := by decide +kernel
theorem dX7_text_106 : decode cX7_text 106 = .ok (.aload_n 0, 1) := by decide +kernel
theorem dX7_text_107 : decode cX7_text 107 = .ok (.getfield 30, 3) := by decide +kernel
theorem dX7_text_110 : decode cX7_text 110 = .ok (.invokevirtual 94, 3) := by decide +kernel
theorem dX7_text_113 : decode cX7_text 113 = .ok (.aload_n 0, 1) := by decide +kernel
theorem dX7_text_114 : decode cX7_text 114 = .ok (.aload_n 0, 1) := by decide +kernel
theorem dX7_text_115 : decode cX7_text 115 = .ok (.getfield 10, 3) := by decide +kernel
theorem dX7_text_118 : decode cX7_text 118 = .ok (.getfield 97, 3) := by decide +kernel
theorem dX7_text_121 : decode cX7_text 121 = .ok (.invokevirtual 100, 3) := by decide +kernel
theorem dX7_text_124 : decode cX7_text 124 = .ok (.ireturn, 1) := by decide +kernel
theorem dX7_fault_0 : decode cX7_fault 0 = .ok (.aload_n 0, 1) := by decide +kernel
theorem dX7_fault_1 : decode cX7_fault 1 = .ok (.getfield 81, 3) := by decide +kernel
theorem dX7_fault_4 : decode cX7_fault 4 = .ok (.ireturn, 1) := by decide +kernel
theorem dX7_where_0 : decode cX7_where 0 = .ok (.aload_n 0, 1) := by decide +kernel
theorem dX7_where_1 : decode cX7_where 1 = .ok (.getfield 55, 3) := by decide +kernel
theorem dX7_where_4 : decode cX7_where 4 = .ok (.ireturn, 1) := by decide +kernel
theorem dX7_about_0 : decode cX7_about 0 = .ok (.aload_n 0, 1) := by decide +kernel
theorem dX7_about_1 : decode cX7_about 1 = .ok (.iload_n 1, 1) := by decide +kernel
theorem dX7_about_2 : decode cX7_about 2 = .ok (.invokevirtual 103, 3) := by decide +kernel
theorem dX7_about_5 : decode cX7_about 5 = .ok (.ifCond .eq 12, 3) := by decide +kernel
theorem dX7_about_8 : decode cX7_about 8 = .ok (.iload_n 2, 1) := by decide +kernel
theorem dX7_about_9 : decode cX7_about 9 = .ok (.ifCond .lt 8, 3) := by decide +kernel
theorem dX7_about_12 : decode cX7_about 12 = .ok (.iload_n 2, 1) := by decide +kernel
theorem dX7_about_13 : decode cX7_about 13 = .ok (.iconst 5, 1) := by decide +kernel
theorem dX7_about_14 : decode cX7_about 14 = .ok (.if_icmp .le 9, 3) := by decide +kernel
theorem dX7_about_17 : decode cX7_about 17 = .ok (.aload_n 0, 1) := by decide +kernel
theorem dX7_about_18 : decode cX7_about 18 = .ok (.iconst 1, 1) := by decide +kernel
theorem dX7_about_19 : decode cX7_about 19 = .ok (.invokevirtual 70, 3) := by decide +kernel
theorem dX7_about_22 : decode cX7_about 22 = .ok (.ireturn, 1) := by decide +kernel
theorem dX7_about_23 : decode cX7_about 23 = .ok (.aload_n 0, 1) := by decide +kernel
theorem dX7_about_24 : decode cX7_about 24 = .ok (.aload_n 0, 1) := by decide +kernel
theorem dX7_about_25 : decode cX7_about 25 = .ok (.aload_n 0, 1) := by decide +kernel
theorem dX7_about_26 : decode cX7_about 26 = .ok (.getfield 18, 3) := by decide +kernel
theorem dX7_about_29 : decode cX7_about 29 = .ok (.iload_n 1, 1) := by decide +kernel
theorem dX7_about_30 : decode cX7_about 30 = .ok (.aaload, 1) := by decide +kernel
theorem dX7_about_31 : decode cX7_about 31 = .ok (.iload_n 2, 1) := by decide +kernel
theorem dX7_about_32 : decode cX7_about 32 = .ok (.invokevirtual 106, 3) := by decide +kernel
theorem dX7_about_35 : decode cX7_about 35 = .ok (.invokevirtual 100, 3) := by decide +kernel
theorem dX7_about_38 : decode cX7_about 38 = .ok (.ireturn, 1) := by decide +kernel
theorem dX7_place_0 : decode cX7_place 0 = .ok (.aload_n 0, 1) := by decide +kernel
theorem dX7_place_1 : decode cX7_place 1 = .ok (.iload_n 1, 1) := by decide +kernel
theorem dX7_place_2 : decode cX7_place 2 = .ok (.iload_n 2, 1) := by decide +kernel
theorem dX7_place_3 : decode cX7_place 3 = .ok (.invokevirtual 110, 3) := by decide +kernel
theorem dX7_place_6 : decode cX7_place 6 = .ok (.ifCond .eq 12, 3) := by decide +kernel
theorem dX7_place_9 : decode cX7_place 9 = .ok (.iload_n 3, 1) := by decide +kernel
theorem dX7_place_10 : decode cX7_place 10 = .ok (.ifCond .lt 8, 3) := by decide +kernel
theorem dX7_place_13 : decode cX7_place 13 = .ok (.iload_n 3, 1) := by decide +kernel
theorem dX7_place_14 : decode cX7_place 14 = .ok (.iconst 1, 1) := by decide +kernel
theorem dX7_place_15 : decode cX7_place 15 = .ok (.if_icmp .le 9, 3) := by decide +kernel
theorem dX7_place_18 : decode cX7_place 18 = .ok (.aload_n 0, 1) := by decide +kernel
theorem dX7_place_19 : decode cX7_place 19 = .ok (.iconst 1, 1) := by decide +kernel
theorem dX7_place_20 : decode cX7_place 20 = .ok (.invokevirtual 70, 3) := by decide +kernel
theorem dX7_place_23 : decode cX7_place 23 = .ok (.ireturn, 1) := by decide +kernel
theorem dX7_place_24 : decode cX7_place 24 = .ok (.aload_n 0, 1) := by decide +kernel
theorem dX7_place_25 : decode cX7_place 25 = .ok (.iload_n 3, 1) := by decide +kernel
theorem dX7_place_26 : decode cX7_place 26 = .ok (.ifCond .ne 17, 3) := by decide +kernel
theorem dX7_place_29 : decode cX7_place 29 = .ok (.aload_n 0, 1) := by decide +kernel
theorem dX7_place_30 : decode cX7_place 30 = .ok (.getfield 18, 3) := by decide +kernel
theorem dX7_place_33 : decode cX7_place 33 = .ok (.iload_n 1, 1) := by decide +kernel
theorem dX7_place_34 : decode cX7_place 34 = .ok (.aaload, 1) := by decide +kernel
theorem dX7_place_35 : decode cX7_place 35 = .ok (.getfield 114, 3) := by decide +kernel
theorem dX7_place_38 : decode cX7_place 38 = .ok (.iload_n 2, 1) := by decide +kernel
theorem dX7_place_39 : decode cX7_place 39 = .ok (.iaload, 1) := by decide +kernel
theorem dX7_place_40 : decode cX7_place 40 = .ok (.goto 14, 3) := by decide +kernel
theorem dX7_place_43 : decode cX7_place 43 = .ok (.aload_n 0, 1) := by decide +kernel
theorem dX7_place_44 : decode cX7_place 44 = .ok (.getfield 18, 3) := by decide +kernel
theorem dX7_place_47 : decode cX7_place 47 = .ok (.iload_n 1, 1) := by decide +kernel
theorem dX7_place_48 : decode cX7_place 48 = .ok (.aaload, 1) := by decide +kernel
theorem dX7_place_49 : decode cX7_place 49 = .ok (.getfield 118, 3) := by decide +kernel
theorem dX7_place_52 : decode cX7_place 52 = .ok (.iload_n 2, 1) := by decide +kernel
theorem dX7_place_53 : decode cX7_place 53 = .ok (.iaload, 1) := by decide +kernel
theorem dX7_place_54 : decode cX7_place 54 = .ok (.invokevirtual 100, 3) := by decide +kernel
theorem dX7_place_57 : decode cX7_place 57 = .ok (.ireturn, 1) := by decide +kernel
theorem dX7_word_0 : decode cX7_word 0 = .ok (.aload_n 0, 1) := by decide +kernel
theorem dX7_word_1 : decode cX7_word 1 = .ok (.iload_n 1, 1) := by decide +kernel
theorem dX7_word_2 : decode cX7_word 2 = .ok (.invokevirtual 103, 3) := by decide +kernel
theorem dX7_word_5 : decode cX7_word 5 = .ok (.ifCond .eq 7, 3) := by decide +kernel
theorem dX7_word_8 : decode cX7_word 8 = .ok (.iload_n 2, 1) := by decide +kernel
theorem dX7_word_9 : decode cX7_word 9 = .ok (.ifCond .ge 9, 3) := by decide +kernel
theorem dX7_word_12 : decode cX7_word 12 = .ok (.aload_n 0, 1) := by decide +kernel
theorem dX7_word_13 : decode cX7_word 13 = .ok (.iconst 1, 1) := by decide +kernel
theorem dX7_word_14 : decode cX7_word 14 = .ok (.invokevirtual 70, 3) := by decide +kernel
theorem dX7_word_17 : decode cX7_word 17 = .ok (.ireturn, 1) := by decide +kernel
theorem dX7_word_18 : decode cX7_word 18 = .ok (.aload_n 0, 1) := by decide +kernel
theorem dX7_word_19 : decode cX7_word 19 = .ok (.aload_n 0, 1) := by decide +kernel
theorem dX7_word_20 : decode cX7_word 20 = .ok (.getfield 18, 3) := by decide +kernel
theorem dX7_word_23 : decode cX7_word 23 = .ok (.iload_n 1, 1) := by decide +kernel
theorem dX7_word_24 : decode cX7_word 24 = .ok (.aaload, 1) := by decide +kernel
theorem dX7_word_25 : decode cX7_word 25 = .ok (.iload_n 2, 1) := by decide +kernel
theorem dX7_word_26 : decode cX7_word 26 = .ok (.invokevirtual 121, 3) := by decide +kernel
theorem dX7_word_29 : decode cX7_word 29 = .ok (.invokevirtual 100, 3) := by decide +kernel
theorem dX7_word_32 : decode cX7_word 32 = .ok (.ireturn, 1) := by decide +kernel
theorem dX7_has_0 : decode cX7_has 0 = .ok (.aload_n 0, 1) := by decide +kernel
theorem dX7_has_1 : decode cX7_has 1 = .ok (.iload_n 1, 1) := by decide +kernel
theorem dX7_has_2 : decode cX7_has 2 = .ok (.iload_n 2, 1) := by decide +kernel
theorem dX7_has_3 : decode cX7_has 3 = .ok (.invokevirtual 124, 3) := by decide +kernel
theorem dX7_has_6 : decode cX7_has 6 = .ok (.ifCond .ne 9, 3) := by decide +kernel
theorem dX7_has_9 : decode cX7_has 9 = .ok (.aload_n 0, 1) := by decide +kernel
theorem dX7_has_10 : decode cX7_has 10 = .ok (.iconst 1, 1) := by decide +kernel
theorem dX7_has_11 : decode cX7_has 11 = .ok (.invokevirtual 70, 3) := by decide +kernel
theorem dX7_has_14 : decode cX7_has 14 = .ok (.ireturn, 1) := by decide +kernel
theorem dX7_has_15 : decode cX7_has 15 = .ok (.aload_n 0, 1) := by decide +kernel
theorem dX7_has_16 : decode cX7_has 16 = .ok (.aload_n 0, 1) := by decide +kernel
theorem dX7_has_17 : decode cX7_has 17 = .ok (.getfield 18, 3) := by decide +kernel
theorem dX7_has_20 : decode cX7_has 20 = .ok (.iload_n 1, 1) := by decide +kernel
theorem dX7_has_21 : decode cX7_has 21 = .ok (.aaload, 1) := by decide +kernel
theorem dX7_has_22 : decode cX7_has 22 = .ok (.iload_n 2, 1) := by decide +kernel
theorem dX7_has_23 : decode cX7_has 23 = .ok (.invokevirtual 127, 3) := by decide +kernel
theorem dX7_has_26 : decode cX7_has 26 = .ok (.ifCond .eq 7, 3) := by decide +kernel
theorem dX7_has_29 : decode cX7_has 29 = .ok (.iconst 1, 1) := by decide +kernel
theorem dX7_has_30 : decode cX7_has 30 = .ok (.goto 4, 3) := by decide +kernel
theorem dX7_has_33 : decode cX7_has 33 = .ok (.iconst 0, 1) := by decide +kernel
theorem dX7_has_34 : decode cX7_has 34 = .ok (.invokevirtual 100, 3) := by decide +kernel
theorem dX7_has_37 : decode cX7_has 37 = .ok (.ireturn, 1) := by decide +kernel
theorem dX7_digit_0 : decode cX7_digit 0 = .ok (.aload_n 0, 1) := by decide +kernel
theorem dX7_digit_1 : decode cX7_digit 1 = .ok (.iload_n 1, 1) := by decide +kernel
theorem dX7_digit_2 : decode cX7_digit 2 = .ok (.iload_n 2, 1) := by decide +kernel
theorem dX7_digit_3 : decode cX7_digit 3 = .ok (.invokevirtual 124, 3) := by decide +kernel
theorem dX7_digit_6 : decode cX7_digit 6 = .ok (.ifCond .eq 12, 3) := by decide +kernel
theorem dX7_digit_9 : decode cX7_digit 9 = .ok (.aload_n 0, 1) := by decide +kernel
theorem dX7_digit_10 : decode cX7_digit 10 = .ok (.iload_n 1, 1) := by decide +kernel
theorem dX7_digit_11 : decode cX7_digit 11 = .ok (.iload_n 3, 1) := by decide +kernel
theorem dX7_digit_12 : decode cX7_digit 12 = .ok (.invokevirtual 110, 3) := by decide +kernel
theorem dX7_digit_15 : decode cX7_digit 15 = .ok (.ifCond .ne 9, 3) := by decide +kernel
theorem dX7_digit_18 : decode cX7_digit 18 = .ok (.aload_n 0, 1) := by decide +kernel
theorem dX7_digit_19 : decode cX7_digit 19 = .ok (.iconst 1, 1) := by decide +kernel
theorem dX7_digit_20 : decode cX7_digit 20 = .ok (.invokevirtual 70, 3) := by decide +kernel
theorem dX7_digit_23 : decode cX7_digit 23 = .ok (.ireturn, 1) := by decide +kernel
theorem dX7_digit_24 : decode cX7_digit 24 = .ok (.aload_n 0, 1) := by decide +kernel
theorem dX7_digit_25 : decode cX7_digit 25 = .ok (.getfield 37, 3) := by decide +kernel
theorem dX7_digit_28 : decode cX7_digit 28 = .ok (.aload_n 0, 1) := by decide +kernel
theorem dX7_digit_29 : decode cX7_digit 29 = .ok (.getfield 18, 3) := by decide +kernel
theorem dX7_digit_32 : decode cX7_digit 32 = .ok (.iload_n 1, 1) := by decide +kernel
theorem dX7_digit_33 : decode cX7_digit 33 = .ok (.aaload, 1) := by decide +kernel
theorem dX7_digit_34 : decode cX7_digit 34 = .ok (.invokevirtual 130, 3) := by decide +kernel
theorem dX7_digit_37 : decode cX7_digit 37 = .ok (.aload_n 0, 1) := by decide +kernel
theorem dX7_digit_38 : decode cX7_digit 38 = .ok (.aload_n 0, 1) := by decide +kernel
theorem dX7_digit_39 : decode cX7_digit 39 = .ok (.getfield 37, 3) := by decide +kernel
theorem dX7_digit_42 : decode cX7_digit 42 = .ok (.iload_n 2, 1) := by decide +kernel
theorem dX7_digit_43 : decode cX7_digit 43 = .ok (.iload_n 3, 1) := by decide +kernel
theorem dX7_digit_44 : decode cX7_digit 44 = .ok (.invokevirtual 134, 3) := by decide +kernel
theorem dX7_digit_47 : decode cX7_digit 47 = .ok (.invokevirtual 100, 3) := by decide +kernel
theorem dX7_digit_50 : decode cX7_digit 50 = .ok (.ireturn, 1) := by decide +kernel
theorem dX7_far_0 : decode cX7_far 0 = .ok (.aload_n 0, 1) := by decide +kernel
theorem dX7_far_1 : decode cX7_far 1 = .ok (.iload_n 1, 1) := by decide +kernel
theorem dX7_far_2 : decode cX7_far 2 = .ok (.iload_n 2, 1) := by decide +kernel
theorem dX7_far_3 : decode cX7_far 3 = .ok (.invokevirtual 124, 3) := by decide +kernel
theorem dX7_far_6 : decode cX7_far 6 = .ok (.ifCond .eq 12, 3) := by decide +kernel
theorem dX7_far_9 : decode cX7_far 9 = .ok (.aload_n 0, 1) := by decide +kernel
theorem dX7_far_10 : decode cX7_far 10 = .ok (.iload_n 1, 1) := by decide +kernel
theorem dX7_far_11 : decode cX7_far 11 = .ok (.iload_n 3, 1) := by decide +kernel
theorem dX7_far_12 : decode cX7_far 12 = .ok (.invokevirtual 124, 3) := by decide +kernel
theorem dX7_far_15 : decode cX7_far 15 = .ok (.ifCond .ne 9, 3) := by decide +kernel
theorem dX7_far_18 : decode cX7_far 18 = .ok (.aload_n 0, 1) := by decide +kernel
theorem dX7_far_19 : decode cX7_far 19 = .ok (.iconst 1, 1) := by decide +kernel
theorem dX7_far_20 : decode cX7_far 20 = .ok (.invokevirtual 70, 3) := by decide +kernel
theorem dX7_far_23 : decode cX7_far 23 = .ok (.ireturn, 1) := by decide +kernel
theorem dX7_far_24 : decode cX7_far 24 = .ok (.aload_n 0, 1) := by decide +kernel
theorem dX7_far_25 : decode cX7_far 25 = .ok (.getfield 37, 3) := by decide +kernel
theorem dX7_far_28 : decode cX7_far 28 = .ok (.aload_n 0, 1) := by decide +kernel
theorem dX7_far_29 : decode cX7_far 29 = .ok (.getfield 18, 3) := by decide +kernel
theorem dX7_far_32 : decode cX7_far 32 = .ok (.iload_n 1, 1) := by decide +kernel
theorem dX7_far_33 : decode cX7_far 33 = .ok (.aaload, 1) := by decide +kernel
theorem dX7_far_34 : decode cX7_far 34 = .ok (.invokevirtual 130, 3) := by decide +kernel
theorem dX7_far_37 : decode cX7_far 37 = .ok (.aload_n 0, 1) := by decide +kernel
theorem dX7_far_38 : decode cX7_far 38 = .ok (.aload_n 0, 1) := by decide +kernel
theorem dX7_far_39 : decode cX7_far 39 = .ok (.getfield 37, 3) := by decide +kernel
theorem dX7_far_42 : decode cX7_far 42 = .ok (.iload_n 2, 1) := by decide +kernel
theorem dX7_far_43 : decode cX7_far 43 = .ok (.iload_n 3, 1) := by decide +kernel
theorem dX7_far_44 : decode cX7_far 44 = .ok (.invokevirtual 138, 3) := by decide +kernel
theorem dX7_far_47 : decode cX7_far 47 = .ok (.invokevirtual 100, 3) := by decide +kernel
theorem dX7_far_50 : decode cX7_far 50 = .ok (.ireturn, 1) := by decide +kernel
theorem dX7_ball_0 : decode cX7_ball 0 = .ok (.aload_n 0, 1) := by decide +kernel
theorem dX7_ball_1 : decode cX7_ball 1 = .ok (.iload_n 1, 1) := by decide +kernel
theorem dX7_ball_2 : decode cX7_ball 2 = .ok (.invokevirtual 103, 3) := by decide +kernel
theorem dX7_ball_5 : decode cX7_ball 5 = .ok (.iload_n 2, 1) := by decide +kernel
theorem dX7_ball_6 : decode cX7_ball 6 = .ok (.invokestatic 141, 3) := by decide +kernel
theorem dX7_ball_9 : decode cX7_ball 9 = .ok (.invokestatic 144, 3) := by decide +kernel
theorem dX7_ball_12 : decode cX7_ball 12 = .ok (.istore_n 3, 1) := by decide +kernel
theorem dX7_ball_13 : decode cX7_ball 13 = .ok (.iload_n 3, 1) := by decide +kernel
theorem dX7_ball_14 : decode cX7_ball 14 = .ok (.ifCond .eq 9, 3) := by decide +kernel
theorem dX7_ball_17 : decode cX7_ball 17 = .ok (.aload_n 0, 1) := by decide +kernel
theorem dX7_ball_18 : decode cX7_ball 18 = .ok (.iload_n 3, 1) := by decide +kernel
theorem dX7_ball_19 : decode cX7_ball 19 = .ok (.invokevirtual 70, 3) := by decide +kernel
theorem dX7_ball_22 : decode cX7_ball 22 = .ok (.ireturn, 1) := by decide +kernel
theorem dX7_ball_23 : decode cX7_ball 23 = .ok (.aload_n 0, 1) := by decide +kernel
theorem dX7_ball_24 : decode cX7_ball 24 = .ok (.getfield 37, 3) := by decide +kernel
theorem dX7_ball_27 : decode cX7_ball 27 = .ok (.aload_n 0, 1) := by decide +kernel
theorem dX7_ball_28 : decode cX7_ball 28 = .ok (.getfield 18, 3) := by decide +kernel
theorem dX7_ball_31 : decode cX7_ball 31 = .ok (.iload_n 1, 1) := by decide +kernel
theorem dX7_ball_32 : decode cX7_ball 32 = .ok (.aaload, 1) := by decide +kernel
theorem dX7_ball_33 : decode cX7_ball 33 = .ok (.invokevirtual 130, 3) := by decide +kernel
theorem dX7_ball_36 : decode cX7_ball 36 = .ok (.aload_n 0, 1) := by decide +kernel
theorem dX7_ball_37 : decode cX7_ball 37 = .ok (.aload_n 0, 1) := by decide +kernel
theorem dX7_ball_38 : decode cX7_ball 38 = .ok (.getfield 37, 3) := by decide +kernel
theorem dX7_ball_41 : decode cX7_ball 41 = .ok (.iload_n 2, 1) := by decide +kernel
theorem dX7_ball_42 : decode cX7_ball 42 = .ok (.invokevirtual 148, 3) := by decide +kernel
theorem dX7_ball_45 : decode cX7_ball 45 = .ok (.invokevirtual 100, 3) := by decide +kernel
theorem dX7_ball_48 : decode cX7_ball 48 = .ok (.ireturn, 1) := by decide +kernel
theorem dX7_ballAt_0 : decode cX7_ballAt 0 = .ok (.aload_n 0, 1) := by decide +kernel
theorem dX7_ballAt_1 : decode cX7_ballAt 1 = .ok (.iload_n 1, 1) := by decide +kernel
theorem dX7_ballAt_2 : decode cX7_ballAt 2 = .ok (.iload_n 2, 1) := by decide +kernel
theorem dX7_ballAt_3 : decode cX7_ballAt 3 = .ok (.invokevirtual 124, 3) := by decide +kernel
theorem dX7_ballAt_6 : decode cX7_ballAt 6 = .ok (.ifCond .eq 12, 3) := by decide +kernel
theorem dX7_ballAt_9 : decode cX7_ballAt 9 = .ok (.iload 4, 2) := by decide +kernel
theorem dX7_ballAt_11 : decode cX7_ballAt 11 = .ok (.ifCond .lt 7, 3) := by decide +kernel
theorem dX7_ballAt_14 : decode cX7_ballAt 14 = .ok (.iconst 1, 1) := by decide +kernel
theorem dX7_ballAt_15 : decode cX7_ballAt 15 = .ok (.goto 4, 3) := by decide +kernel
theorem dX7_ballAt_18 : decode cX7_ballAt 18 = .ok (.iconst 0, 1) := by decide +kernel
theorem dX7_ballAt_19 : decode cX7_ballAt 19 = .ok (.iload_n 3, 1) := by decide +kernel
theorem dX7_ballAt_20 : decode cX7_ballAt 20 = .ok (.invokestatic 141, 3) := by decide +kernel
theorem dX7_ballAt_23 : decode cX7_ballAt 23 = .ok (.invokestatic 144, 3) := by decide +kernel
theorem dX7_ballAt_26 : decode cX7_ballAt 26 = .ok (.istore 5, 2) := by decide +kernel
theorem dX7_ballAt_28 : decode cX7_ballAt 28 = .ok (.iload 5, 2) := by decide +kernel
theorem dX7_ballAt_30 : decode cX7_ballAt 30 = .ok (.ifCond .eq 10, 3) := by decide +kernel
theorem dX7_ballAt_33 : decode cX7_ballAt 33 = .ok (.aload_n 0, 1) := by decide +kernel
theorem dX7_ballAt_34 : decode cX7_ballAt 34 = .ok (.iload 5, 2) := by decide +kernel
theorem dX7_ballAt_36 : decode cX7_ballAt 36 = .ok (.invokevirtual 70, 3) := by decide +kernel
theorem dX7_ballAt_39 : decode cX7_ballAt 39 = .ok (.ireturn, 1) := by decide +kernel
theorem dX7_ballAt_40 : decode cX7_ballAt 40 = .ok (.aload_n 0, 1) := by decide +kernel
theorem dX7_ballAt_41 : decode cX7_ballAt 41 = .ok (.getfield 37, 3) := by decide +kernel
theorem dX7_ballAt_44 : decode cX7_ballAt 44 = .ok (.aload_n 0, 1) := by decide +kernel
theorem dX7_ballAt_45 : decode cX7_ballAt 45 = .ok (.getfield 18, 3) := by decide +kernel
theorem dX7_ballAt_48 : decode cX7_ballAt 48 = .ok (.iload_n 1, 1) := by decide +kernel
theorem dX7_ballAt_49 : decode cX7_ballAt 49 = .ok (.aaload, 1) := by decide +kernel
theorem dX7_ballAt_50 : decode cX7_ballAt 50 = .ok (.invokevirtual 130, 3) := by decide +kernel
theorem dX7_ballAt_53 : decode cX7_ballAt 53 = .ok (.aload_n 0, 1) := by decide +kernel
theorem dX7_ballAt_54 : decode cX7_ballAt 54 = .ok (.aload_n 0, 1) := by decide +kernel
theorem dX7_ballAt_55 : decode cX7_ballAt 55 = .ok (.getfield 37, 3) := by decide +kernel
theorem dX7_ballAt_58 : decode cX7_ballAt 58 = .ok (.iload_n 2, 1) := by decide +kernel
theorem dX7_ballAt_59 : decode cX7_ballAt 59 = .ok (.iload_n 3, 1) := by decide +kernel
theorem dX7_ballAt_60 : decode cX7_ballAt 60 = .ok (.iload 4, 2) := by decide +kernel
theorem dX7_ballAt_62 : decode cX7_ballAt 62 = .ok (.invokevirtual 151, 3) := by decide +kernel
theorem dX7_ballAt_65 : decode cX7_ballAt 65 = .ok (.invokevirtual 100, 3) := by decide +kernel
theorem dX7_ballAt_68 : decode cX7_ballAt 68 = .ok (.ireturn, 1) := by decide +kernel
theorem dX7_covered_0 : decode cX7_covered 0 = .ok (.aload_n 0, 1) := by decide +kernel
theorem dX7_covered_1 : decode cX7_covered 1 = .ok (.iload_n 1, 1) := by decide +kernel
theorem dX7_covered_2 : decode cX7_covered 2 = .ok (.invokevirtual 103, 3) := by decide +kernel
theorem dX7_covered_5 : decode cX7_covered 5 = .ok (.iload_n 2, 1) := by decide +kernel
theorem dX7_covered_6 : decode cX7_covered 6 = .ok (.invokestatic 141, 3) := by decide +kernel
theorem dX7_covered_9 : decode cX7_covered 9 = .ok (.invokestatic 144, 3) := by decide +kernel
theorem dX7_covered_12 : decode cX7_covered 12 = .ok (.istore_n 3, 1) := by decide +kernel
theorem dX7_covered_13 : decode cX7_covered 13 = .ok (.iload_n 3, 1) := by decide +kernel
theorem dX7_covered_14 : decode cX7_covered 14 = .ok (.ifCond .eq 9, 3) := by decide +kernel
theorem dX7_covered_17 : decode cX7_covered 17 = .ok (.aload_n 0, 1) := by decide +kernel
theorem dX7_covered_18 : decode cX7_covered 18 = .ok (.iload_n 3, 1) := by decide +kernel
theorem dX7_covered_19 : decode cX7_covered 19 = .ok (.invokevirtual 70, 3) := by decide +kernel
theorem dX7_covered_22 : decode cX7_covered 22 = .ok (.ireturn, 1) := by decide +kernel
theorem dX7_covered_23 : decode cX7_covered 23 = .ok (.aload_n 0, 1) := by decide +kernel
theorem dX7_covered_24 : decode cX7_covered 24 = .ok (.aload_n 0, 1) := by decide +kernel
theorem dX7_covered_25 : decode cX7_covered 25 = .ok (.getfield 18, 3) := by decide +kernel
theorem dX7_covered_28 : decode cX7_covered 28 = .ok (.iload_n 1, 1) := by decide +kernel
theorem dX7_covered_29 : decode cX7_covered 29 = .ok (.aaload, 1) := by decide +kernel
theorem dX7_covered_30 : decode cX7_covered 30 = .ok (.iload_n 2, 1) := by decide +kernel
theorem dX7_covered_31 : decode cX7_covered 31 = .ok (.invokevirtual 155, 3) := by decide +kernel
theorem dX7_covered_34 : decode cX7_covered 34 = .ok (.aload_n 0, 1) := by decide +kernel
theorem dX7_covered_35 : decode cX7_covered 35 = .ok (.aload_n 0, 1) := by decide +kernel
theorem dX7_covered_36 : decode cX7_covered 36 = .ok (.getfield 37, 3) := by decide +kernel
theorem dX7_covered_39 : decode cX7_covered 39 = .ok (.getfield 159, 3) := by decide +kernel
theorem dX7_covered_42 : decode cX7_covered 42 = .ok (.aload_n 0, 1) := by decide +kernel
theorem dX7_covered_43 : decode cX7_covered 43 = .ok (.getfield 37, 3) := by decide +kernel
theorem dX7_covered_46 : decode cX7_covered 46 = .ok (.iconst 0, 1) := by decide +kernel
theorem dX7_covered_47 : decode cX7_covered 47 = .ok (.invokevirtual 162, 3) := by decide +kernel
theorem dX7_covered_50 : decode cX7_covered 50 = .ok (.isub, 1) := by decide +kernel
theorem dX7_covered_51 : decode cX7_covered 51 = .ok (.invokevirtual 100, 3) := by decide +kernel
theorem dX7_covered_54 : decode cX7_covered 54 = .ok (.ireturn, 1) := by decide +kernel
theorem dX7_times_0 : decode cX7_times 0 = .ok (.aload_n 0, 1) := by decide +kernel
theorem dX7_times_1 : decode cX7_times 1 = .ok (.iload_n 1, 1) := by decide +kernel
theorem dX7_times_2 : decode cX7_times 2 = .ok (.iload_n 2, 1) := by decide +kernel
theorem dX7_times_3 : decode cX7_times 3 = .ok (.invokevirtual 124, 3) := by decide +kernel
theorem dX7_times_6 : decode cX7_times 6 = .ok (.iload_n 3, 1) := by decide +kernel
theorem dX7_times_7 : decode cX7_times 7 = .ok (.invokestatic 141, 3) := by decide +kernel
theorem dX7_times_10 : decode cX7_times 10 = .ok (.invokestatic 144, 3) := by decide +kernel
theorem dX7_times_13 : decode cX7_times 13 = .ok (.istore 4, 2) := by decide +kernel
theorem dX7_times_15 : decode cX7_times 15 = .ok (.iload 4, 2) := by decide +kernel
theorem dX7_times_17 : decode cX7_times 17 = .ok (.ifCond .eq 10, 3) := by decide +kernel
theorem dX7_times_20 : decode cX7_times 20 = .ok (.aload_n 0, 1) := by decide +kernel
theorem dX7_times_21 : decode cX7_times 21 = .ok (.iload 4, 2) := by decide +kernel
theorem dX7_times_23 : decode cX7_times 23 = .ok (.invokevirtual 70, 3) := by decide +kernel
theorem dX7_times_26 : decode cX7_times 26 = .ok (.ireturn, 1) := by decide +kernel
theorem dX7_times_27 : decode cX7_times 27 = .ok (.aload_n 0, 1) := by decide +kernel
theorem dX7_times_28 : decode cX7_times 28 = .ok (.aload_n 0, 1) := by decide +kernel
theorem dX7_times_29 : decode cX7_times 29 = .ok (.getfield 18, 3) := by decide +kernel
theorem dX7_times_32 : decode cX7_times 32 = .ok (.iload_n 1, 1) := by decide +kernel
theorem dX7_times_33 : decode cX7_times 33 = .ok (.aaload, 1) := by decide +kernel
theorem dX7_times_34 : decode cX7_times 34 = .ok (.iload_n 3, 1) := by decide +kernel
theorem dX7_times_35 : decode cX7_times 35 = .ok (.invokevirtual 155, 3) := by decide +kernel
theorem dX7_times_38 : decode cX7_times 38 = .ok (.aload_n 0, 1) := by decide +kernel
theorem dX7_times_39 : decode cX7_times 39 = .ok (.aload_n 0, 1) := by decide +kernel
theorem dX7_times_40 : decode cX7_times 40 = .ok (.getfield 37, 3) := by decide +kernel
theorem dX7_times_43 : decode cX7_times 43 = .ok (.getfield 165, 3) := by decide +kernel
theorem dX7_times_46 : decode cX7_times 46 = .ok (.iload_n 2, 1) := by decide +kernel
theorem dX7_times_47 : decode cX7_times 47 = .ok (.iaload, 1) := by decide +kernel
theorem dX7_times_48 : decode cX7_times 48 = .ok (.invokevirtual 100, 3) := by decide +kernel
theorem dX7_times_51 : decode cX7_times 51 = .ok (.ireturn, 1) := by decide +kernel
theorem dX7_table_0 : decode cX7_table 0 = .ok (.aload_n 0, 1) := by decide +kernel
theorem dX7_table_1 : decode cX7_table 1 = .ok (.iload_n 1, 1) := by decide +kernel
theorem dX7_table_2 : decode cX7_table 2 = .ok (.invokevirtual 103, 3) := by decide +kernel
theorem dX7_table_5 : decode cX7_table 5 = .ok (.iload_n 2, 1) := by decide +kernel
theorem dX7_table_6 : decode cX7_table 6 = .ok (.invokestatic 141, 3) := by decide +kernel
theorem dX7_table_9 : decode cX7_table 9 = .ok (.ifCond .eq 11, 3) := by decide +kernel
theorem dX7_table_12 : decode cX7_table 12 = .ok (.iload_n 3, 1) := by decide +kernel
theorem dX7_table_13 : decode cX7_table 13 = .ok (.ifCond .lt 7, 3) := by decide +kernel
theorem dX7_table_16 : decode cX7_table 16 = .ok (.iconst 1, 1) := by decide +kernel
theorem dX7_table_17 : decode cX7_table 17 = .ok (.goto 4, 3) := by decide +kernel
theorem dX7_table_20 : decode cX7_table 20 = .ok (.iconst 0, 1) := by decide +kernel
theorem dX7_table_21 : decode cX7_table 21 = .ok (.invokestatic 144, 3) := by decide +kernel
theorem dX7_table_24 : decode cX7_table 24 = .ok (.istore 4, 2) := by decide +kernel
theorem dX7_table_26 : decode cX7_table 26 = .ok (.iload 4, 2) := by decide +kernel
theorem dX7_table_28 : decode cX7_table 28 = .ok (.ifCond .eq 10, 3) := by decide +kernel
theorem dX7_table_31 : decode cX7_table 31 = .ok (.aload_n 0, 1) := by decide +kernel
theorem dX7_table_32 : decode cX7_table 32 = .ok (.iload 4, 2) := by decide +kernel
theorem dX7_table_34 : decode cX7_table 34 = .ok (.invokevirtual 70, 3) := by decide +kernel
theorem dX7_table_37 : decode cX7_table 37 = .ok (.ireturn, 1) := by decide +kernel
theorem dX7_table_38 : decode cX7_table 38 = .ok (.aload_n 0, 1) := by decide +kernel
theorem dX7_table_39 : decode cX7_table 39 = .ok (.aload_n 0, 1) := by decide +kernel
theorem dX7_table_40 : decode cX7_table 40 = .ok (.getfield 18, 3) := by decide +kernel
theorem dX7_table_43 : decode cX7_table 43 = .ok (.iload_n 1, 1) := by decide +kernel
theorem dX7_table_44 : decode cX7_table 44 = .ok (.aaload, 1) := by decide +kernel
theorem dX7_table_45 : decode cX7_table 45 = .ok (.iload_n 2, 1) := by decide +kernel
theorem dX7_table_46 : decode cX7_table 46 = .ok (.invokevirtual 155, 3) := by decide +kernel
theorem dX7_table_49 : decode cX7_table 49 = .ok (.aload_n 0, 1) := by decide +kernel
theorem dX7_table_50 : decode cX7_table 50 = .ok (.aload_n 0, 1) := by decide +kernel
theorem dX7_table_51 : decode cX7_table 51 = .ok (.getfield 37, 3) := by decide +kernel
theorem dX7_table_54 : decode cX7_table 54 = .ok (.iload_n 3, 1) := by decide +kernel
theorem dX7_table_55 : decode cX7_table 55 = .ok (.invokevirtual 162, 3) := by decide +kernel
theorem dX7_table_58 : decode cX7_table 58 = .ok (.invokevirtual 100, 3) := by decide +kernel
theorem dX7_table_61 : decode cX7_table 61 = .ok (.ireturn, 1) := by decide +kernel
theorem dX7_hole_0 : decode cX7_hole 0 = .ok (.aload_n 0, 1) := by decide +kernel
theorem dX7_hole_1 : decode cX7_hole 1 = .ok (.iload_n 1, 1) := by decide +kernel
theorem dX7_hole_2 : decode cX7_hole 2 = .ok (.invokevirtual 103, 3) := by decide +kernel
theorem dX7_hole_5 : decode cX7_hole 5 = .ok (.ifCond .eq 11, 3) := by decide +kernel
theorem dX7_hole_8 : decode cX7_hole 8 = .ok (.iload_n 3, 1) := by decide +kernel
theorem dX7_hole_9 : decode cX7_hole 9 = .ok (.ifCond .lt 7, 3) := by decide +kernel
theorem dX7_hole_12 : decode cX7_hole 12 = .ok (.iconst 1, 1) := by decide +kernel
theorem dX7_hole_13 : decode cX7_hole 13 = .ok (.goto 4, 3) := by decide +kernel
theorem dX7_hole_16 : decode cX7_hole 16 = .ok (.iconst 0, 1) := by decide +kernel
theorem dX7_hole_17 : decode cX7_hole 17 = .ok (.iload_n 2, 1) := by decide +kernel
theorem dX7_hole_18 : decode cX7_hole 18 = .ok (.invokestatic 141, 3) := by decide +kernel
theorem dX7_hole_21 : decode cX7_hole 21 = .ok (.invokestatic 144, 3) := by decide +kernel
theorem dX7_hole_24 : decode cX7_hole 24 = .ok (.istore 4, 2) := by decide +kernel
theorem dX7_hole_26 : decode cX7_hole 26 = .ok (.iload 4, 2) := by decide +kernel
theorem dX7_hole_28 : decode cX7_hole 28 = .ok (.ifCond .eq 10, 3) := by decide +kernel
theorem dX7_hole_31 : decode cX7_hole 31 = .ok (.aload_n 0, 1) := by decide +kernel
theorem dX7_hole_32 : decode cX7_hole 32 = .ok (.iload 4, 2) := by decide +kernel
theorem dX7_hole_34 : decode cX7_hole 34 = .ok (.invokevirtual 70, 3) := by decide +kernel
theorem dX7_hole_37 : decode cX7_hole 37 = .ok (.ireturn, 1) := by decide +kernel
theorem dX7_hole_38 : decode cX7_hole 38 = .ok (.aload_n 0, 1) := by decide +kernel
theorem dX7_hole_39 : decode cX7_hole 39 = .ok (.aload_n 0, 1) := by decide +kernel
theorem dX7_hole_40 : decode cX7_hole 40 = .ok (.getfield 18, 3) := by decide +kernel
theorem dX7_hole_43 : decode cX7_hole 43 = .ok (.iload_n 1, 1) := by decide +kernel
theorem dX7_hole_44 : decode cX7_hole 44 = .ok (.aaload, 1) := by decide +kernel
theorem dX7_hole_45 : decode cX7_hole 45 = .ok (.iload_n 2, 1) := by decide +kernel
theorem dX7_hole_46 : decode cX7_hole 46 = .ok (.invokevirtual 155, 3) := by decide +kernel
theorem dX7_hole_49 : decode cX7_hole 49 = .ok (.aload_n 0, 1) := by decide +kernel
theorem dX7_hole_50 : decode cX7_hole 50 = .ok (.aload_n 0, 1) := by decide +kernel
theorem dX7_hole_51 : decode cX7_hole 51 = .ok (.getfield 37, 3) := by decide +kernel
theorem dX7_hole_54 : decode cX7_hole 54 = .ok (.iload_n 3, 1) := by decide +kernel
theorem dX7_hole_55 : decode cX7_hole 55 = .ok (.invokevirtual 168, 3) := by decide +kernel
theorem dX7_hole_58 : decode cX7_hole 58 = .ok (.invokevirtual 100, 3) := by decide +kernel
theorem dX7_hole_61 : decode cX7_hole 61 = .ok (.ireturn, 1) := by decide +kernel
theorem dX7_idle_0 : decode cX7_idle 0 = .ok (.aload_n 0, 1) := by decide +kernel
theorem dX7_idle_1 : decode cX7_idle 1 = .ok (.iload_n 1, 1) := by decide +kernel
theorem dX7_idle_2 : decode cX7_idle 2 = .ok (.invokevirtual 103, 3) := by decide +kernel
theorem dX7_idle_5 : decode cX7_idle 5 = .ok (.ifCond .eq 11, 3) := by decide +kernel
theorem dX7_idle_8 : decode cX7_idle 8 = .ok (.iload_n 3, 1) := by decide +kernel
theorem dX7_idle_9 : decode cX7_idle 9 = .ok (.ifCond .lt 7, 3) := by decide +kernel
theorem dX7_idle_12 : decode cX7_idle 12 = .ok (.iconst 1, 1) := by decide +kernel
theorem dX7_idle_13 : decode cX7_idle 13 = .ok (.goto 4, 3) := by decide +kernel
theorem dX7_idle_16 : decode cX7_idle 16 = .ok (.iconst 0, 1) := by decide +kernel
theorem dX7_idle_17 : decode cX7_idle 17 = .ok (.iload_n 2, 1) := by decide +kernel
theorem dX7_idle_18 : decode cX7_idle 18 = .ok (.invokestatic 141, 3) := by decide +kernel
theorem dX7_idle_21 : decode cX7_idle 21 = .ok (.invokestatic 144, 3) := by decide +kernel
theorem dX7_idle_24 : decode cX7_idle 24 = .ok (.istore 4, 2) := by decide +kernel
theorem dX7_idle_26 : decode cX7_idle 26 = .ok (.iload 4, 2) := by decide +kernel
theorem dX7_idle_28 : decode cX7_idle 28 = .ok (.ifCond .eq 10, 3) := by decide +kernel
theorem dX7_idle_31 : decode cX7_idle 31 = .ok (.aload_n 0, 1) := by decide +kernel
theorem dX7_idle_32 : decode cX7_idle 32 = .ok (.iload 4, 2) := by decide +kernel
theorem dX7_idle_34 : decode cX7_idle 34 = .ok (.invokevirtual 70, 3) := by decide +kernel
theorem dX7_idle_37 : decode cX7_idle 37 = .ok (.ireturn, 1) := by decide +kernel
theorem dX7_idle_38 : decode cX7_idle 38 = .ok (.aload_n 0, 1) := by decide +kernel
theorem dX7_idle_39 : decode cX7_idle 39 = .ok (.aload_n 0, 1) := by decide +kernel
theorem dX7_idle_40 : decode cX7_idle 40 = .ok (.getfield 18, 3) := by decide +kernel
theorem dX7_idle_43 : decode cX7_idle 43 = .ok (.iload_n 1, 1) := by decide +kernel
theorem dX7_idle_44 : decode cX7_idle 44 = .ok (.aaload, 1) := by decide +kernel
theorem dX7_idle_45 : decode cX7_idle 45 = .ok (.iload_n 2, 1) := by decide +kernel
theorem dX7_idle_46 : decode cX7_idle 46 = .ok (.invokevirtual 155, 3) := by decide +kernel
theorem dX7_idle_49 : decode cX7_idle 49 = .ok (.aload_n 0, 1) := by decide +kernel
theorem dX7_idle_50 : decode cX7_idle 50 = .ok (.aload_n 0, 1) := by decide +kernel
theorem dX7_idle_51 : decode cX7_idle 51 = .ok (.getfield 37, 3) := by decide +kernel
theorem dX7_idle_54 : decode cX7_idle 54 = .ok (.aload_n 0, 1) := by decide +kernel
theorem dX7_idle_55 : decode cX7_idle 55 = .ok (.getfield 18, 3) := by decide +kernel
theorem dX7_idle_58 : decode cX7_idle 58 = .ok (.iload_n 1, 1) := by decide +kernel
theorem dX7_idle_59 : decode cX7_idle 59 = .ok (.aaload, 1) := by decide +kernel
theorem dX7_idle_60 : decode cX7_idle 60 = .ok (.iload_n 2, 1) := by decide +kernel
theorem dX7_idle_61 : decode cX7_idle 61 = .ok (.iload_n 3, 1) := by decide +kernel
theorem dX7_idle_62 : decode cX7_idle 62 = .ok (.invokevirtual 171, 3) := by decide +kernel
theorem dX7_idle_65 : decode cX7_idle 65 = .ok (.invokevirtual 100, 3) := by decide +kernel
theorem dX7_idle_68 : decode cX7_idle 68 = .ok (.ireturn, 1) := by decide +kernel
theorem dX7_excess_0 : decode cX7_excess 0 = .ok (.aload_n 0, 1) := by decide +kernel
theorem dX7_excess_1 : decode cX7_excess 1 = .ok (.iload_n 1, 1) := by decide +kernel
theorem dX7_excess_2 : decode cX7_excess 2 = .ok (.invokevirtual 103, 3) := by decide +kernel
theorem dX7_excess_5 : decode cX7_excess 5 = .ok (.iload_n 2, 1) := by decide +kernel
theorem dX7_excess_6 : decode cX7_excess 6 = .ok (.invokestatic 141, 3) := by decide +kernel
theorem dX7_excess_9 : decode cX7_excess 9 = .ok (.invokestatic 144, 3) := by decide +kernel
theorem dX7_excess_12 : decode cX7_excess 12 = .ok (.istore_n 3, 1) := by decide +kernel
theorem dX7_excess_13 : decode cX7_excess 13 = .ok (.iload_n 3, 1) := by decide +kernel
theorem dX7_excess_14 : decode cX7_excess 14 = .ok (.ifCond .eq 9, 3) := by decide +kernel
theorem dX7_excess_17 : decode cX7_excess 17 = .ok (.aload_n 0, 1) := by decide +kernel
theorem dX7_excess_18 : decode cX7_excess 18 = .ok (.iload_n 3, 1) := by decide +kernel
theorem dX7_excess_19 : decode cX7_excess 19 = .ok (.invokevirtual 70, 3) := by decide +kernel
theorem dX7_excess_22 : decode cX7_excess 22 = .ok (.ireturn, 1) := by decide +kernel
theorem dX7_excess_23 : decode cX7_excess 23 = .ok (.aload_n 0, 1) := by decide +kernel
theorem dX7_excess_24 : decode cX7_excess 24 = .ok (.aload_n 0, 1) := by decide +kernel
theorem dX7_excess_25 : decode cX7_excess 25 = .ok (.getfield 18, 3) := by decide +kernel
theorem dX7_excess_28 : decode cX7_excess 28 = .ok (.iload_n 1, 1) := by decide +kernel
theorem dX7_excess_29 : decode cX7_excess 29 = .ok (.aaload, 1) := by decide +kernel
theorem dX7_excess_30 : decode cX7_excess 30 = .ok (.iload_n 2, 1) := by decide +kernel
theorem dX7_excess_31 : decode cX7_excess 31 = .ok (.invokevirtual 155, 3) := by decide +kernel
theorem dX7_excess_34 : decode cX7_excess 34 = .ok (.aload_n 0, 1) := by decide +kernel
theorem dX7_excess_35 : decode cX7_excess 35 = .ok (.aload_n 0, 1) := by decide +kernel
theorem dX7_excess_36 : decode cX7_excess 36 = .ok (.getfield 37, 3) := by decide +kernel
theorem dX7_excess_39 : decode cX7_excess 39 = .ok (.invokevirtual 175, 3) := by decide +kernel
theorem dX7_excess_42 : decode cX7_excess 42 = .ok (.invokevirtual 100, 3) := by decide +kernel
theorem dX7_excess_45 : decode cX7_excess 45 = .ok (.ireturn, 1) := by decide +kernel
theorem dX7_bound_0 : decode cX7_bound 0 = .ok (.aload_n 0, 1) := by decide +kernel
theorem dX7_bound_1 : decode cX7_bound 1 = .ok (.iload_n 1, 1) := by decide +kernel
theorem dX7_bound_2 : decode cX7_bound 2 = .ok (.invokevirtual 103, 3) := by decide +kernel
theorem dX7_bound_5 : decode cX7_bound 5 = .ok (.iload_n 2, 1) := by decide +kernel
theorem dX7_bound_6 : decode cX7_bound 6 = .ok (.invokestatic 141, 3) := by decide +kernel
theorem dX7_bound_9 : decode cX7_bound 9 = .ok (.invokestatic 144, 3) := by decide +kernel
theorem dX7_bound_12 : decode cX7_bound 12 = .ok (.istore_n 3, 1) := by decide +kernel
theorem dX7_bound_13 : decode cX7_bound 13 = .ok (.iload_n 3, 1) := by decide +kernel
theorem dX7_bound_14 : decode cX7_bound 14 = .ok (.ifCond .eq 9, 3) := by decide +kernel
theorem dX7_bound_17 : decode cX7_bound 17 = .ok (.aload_n 0, 1) := by decide +kernel
theorem dX7_bound_18 : decode cX7_bound 18 = .ok (.iload_n 3, 1) := by decide +kernel
theorem dX7_bound_19 : decode cX7_bound 19 = .ok (.invokevirtual 70, 3) := by decide +kernel
theorem dX7_bound_22 : decode cX7_bound 22 = .ok (.ireturn, 1) := by decide +kernel
theorem dX7_bound_23 : decode cX7_bound 23 = .ok (.aload_n 0, 1) := by decide +kernel
theorem dX7_bound_24 : decode cX7_bound 24 = .ok (.getfield 37, 3) := by decide +kernel
theorem dX7_bound_27 : decode cX7_bound 27 = .ok (.aload_n 0, 1) := by decide +kernel
theorem dX7_bound_28 : decode cX7_bound 28 = .ok (.getfield 18, 3) := by decide +kernel
theorem dX7_bound_31 : decode cX7_bound 31 = .ok (.iload_n 1, 1) := by decide +kernel
theorem dX7_bound_32 : decode cX7_bound 32 = .ok (.aaload, 1) := by decide +kernel
theorem dX7_bound_33 : decode cX7_bound 33 = .ok (.invokevirtual 130, 3) := by decide +kernel
theorem dX7_bound_36 : decode cX7_bound 36 = .ok (.aload_n 0, 1) := by decide +kernel
theorem dX7_bound_37 : decode cX7_bound 37 = .ok (.aload_n 0, 1) := by decide +kernel
theorem dX7_bound_38 : decode cX7_bound 38 = .ok (.getfield 37, 3) := by decide +kernel
theorem dX7_bound_41 : decode cX7_bound 41 = .ok (.iload_n 2, 1) := by decide +kernel
theorem dX7_bound_42 : decode cX7_bound 42 = .ok (.invokevirtual 179, 3) := by decide +kernel
theorem dX7_bound_45 : decode cX7_bound 45 = .ok (.invokevirtual 100, 3) := by decide +kernel
theorem dX7_bound_48 : decode cX7_bound 48 = .ok (.ireturn, 1) := by decide +kernel
theorem dX7_pairs_0 : decode cX7_pairs 0 = .ok (.aload_n 0, 1) := by decide +kernel
theorem dX7_pairs_1 : decode cX7_pairs 1 = .ok (.iload_n 1, 1) := by decide +kernel
theorem dX7_pairs_2 : decode cX7_pairs 2 = .ok (.invokevirtual 103, 3) := by decide +kernel
theorem dX7_pairs_5 : decode cX7_pairs 5 = .ok (.iload_n 2, 1) := by decide +kernel
theorem dX7_pairs_6 : decode cX7_pairs 6 = .ok (.ifCond .lt 7, 3) := by decide +kernel
theorem dX7_pairs_9 : decode cX7_pairs 9 = .ok (.iconst 1, 1) := by decide +kernel
theorem dX7_pairs_10 : decode cX7_pairs 10 = .ok (.goto 4, 3) := by decide +kernel
theorem dX7_pairs_13 : decode cX7_pairs 13 = .ok (.iconst 0, 1) := by decide +kernel
theorem dX7_pairs_14 : decode cX7_pairs 14 = .ok (.invokestatic 144, 3) := by decide +kernel
theorem dX7_pairs_17 : decode cX7_pairs 17 = .ok (.istore_n 3, 1) := by decide +kernel
theorem dX7_pairs_18 : decode cX7_pairs 18 = .ok (.iload_n 3, 1) := by decide +kernel
theorem dX7_pairs_19 : decode cX7_pairs 19 = .ok (.ifCond .eq 9, 3) := by decide +kernel
theorem dX7_pairs_22 : decode cX7_pairs 22 = .ok (.aload_n 0, 1) := by decide +kernel
theorem dX7_pairs_23 : decode cX7_pairs 23 = .ok (.iload_n 3, 1) := by decide +kernel
theorem dX7_pairs_24 : decode cX7_pairs 24 = .ok (.invokevirtual 70, 3) := by decide +kernel
theorem dX7_pairs_27 : decode cX7_pairs 27 = .ok (.ireturn, 1) := by decide +kernel
theorem dX7_pairs_28 : decode cX7_pairs 28 = .ok (.aload_n 0, 1) := by decide +kernel
theorem dX7_pairs_29 : decode cX7_pairs 29 = .ok (.getfield 37, 3) := by decide +kernel
theorem dX7_pairs_32 : decode cX7_pairs 32 = .ok (.aload_n 0, 1) := by decide +kernel
theorem dX7_pairs_33 : decode cX7_pairs 33 = .ok (.getfield 18, 3) := by decide +kernel
theorem dX7_pairs_36 : decode cX7_pairs 36 = .ok (.iload_n 1, 1) := by decide +kernel
theorem dX7_pairs_37 : decode cX7_pairs 37 = .ok (.aaload, 1) := by decide +kernel
theorem dX7_pairs_38 : decode cX7_pairs 38 = .ok (.invokevirtual 130, 3) := by decide +kernel
theorem dX7_pairs_41 : decode cX7_pairs 41 = .ok (.aload_n 0, 1) := by decide +kernel
theorem dX7_pairs_42 : decode cX7_pairs 42 = .ok (.aload_n 0, 1) := by decide +kernel
theorem dX7_pairs_43 : decode cX7_pairs 43 = .ok (.getfield 37, 3) := by decide +kernel
theorem dX7_pairs_46 : decode cX7_pairs 46 = .ok (.aload_n 0, 1) := by decide +kernel
theorem dX7_pairs_47 : decode cX7_pairs 47 = .ok (.getfield 18, 3) := by decide +kernel
theorem dX7_pairs_50 : decode cX7_pairs 50 = .ok (.iload_n 1, 1) := by decide +kernel
theorem dX7_pairs_51 : decode cX7_pairs 51 = .ok (.aaload, 1) := by decide +kernel
theorem dX7_pairs_52 : decode cX7_pairs 52 = .ok (.iload_n 2, 1) := by decide +kernel
theorem dX7_pairs_53 : decode cX7_pairs 53 = .ok (.invokevirtual 182, 3) := by decide +kernel
theorem dX7_pairs_56 : decode cX7_pairs 56 = .ok (.invokevirtual 100, 3) := by decide +kernel
theorem dX7_pairs_59 : decode cX7_pairs 59 = .ok (.ireturn, 1) := by decide +kernel
theorem dX7_centre_0 : decode cX7_centre 0 = .ok (.aload_n 0, 1) := by decide +kernel
theorem dX7_centre_1 : decode cX7_centre 1 = .ok (.iload_n 1, 1) := by decide +kernel
theorem dX7_centre_2 : decode cX7_centre 2 = .ok (.invokevirtual 103, 3) := by decide +kernel
theorem dX7_centre_5 : decode cX7_centre 5 = .ok (.ifCond .eq 12, 3) := by decide +kernel
theorem dX7_centre_8 : decode cX7_centre 8 = .ok (.iload_n 2, 1) := by decide +kernel
theorem dX7_centre_9 : decode cX7_centre 9 = .ok (.ifCond .lt 8, 3) := by decide +kernel
theorem dX7_centre_12 : decode cX7_centre 12 = .ok (.iload_n 2, 1) := by decide +kernel
theorem dX7_centre_13 : decode cX7_centre 13 = .ok (.iconst 1, 1) := by decide +kernel
theorem dX7_centre_14 : decode cX7_centre 14 = .ok (.if_icmp .le 9, 3) := by decide +kernel
theorem dX7_centre_17 : decode cX7_centre 17 = .ok (.aload_n 0, 1) := by decide +kernel
theorem dX7_centre_18 : decode cX7_centre 18 = .ok (.iconst 1, 1) := by decide +kernel
theorem dX7_centre_19 : decode cX7_centre 19 = .ok (.invokevirtual 70, 3) := by decide +kernel
theorem dX7_centre_22 : decode cX7_centre 22 = .ok (.ireturn, 1) := by decide +kernel
theorem dX7_centre_23 : decode cX7_centre 23 = .ok (.aload_n 0, 1) := by decide +kernel
theorem dX7_centre_24 : decode cX7_centre 24 = .ok (.getfield 18, 3) := by decide +kernel
theorem dX7_centre_27 : decode cX7_centre 27 = .ok (.iload_n 1, 1) := by decide +kernel
theorem dX7_centre_28 : decode cX7_centre 28 = .ok (.aaload, 1) := by decide +kernel
theorem dX7_centre_29 : decode cX7_centre 29 = .ok (.getfield 185, 3) := by decide +kernel
theorem dX7_centre_32 : decode cX7_centre 32 = .ok (.ifCond .ne 9, 3) := by decide +kernel
theorem dX7_centre_35 : decode cX7_centre 35 = .ok (.aload_n 0, 1) := by decide +kernel
theorem dX7_centre_36 : decode cX7_centre 36 = .ok (.iconst 5, 1) := by decide +kernel
theorem dX7_centre_37 : decode cX7_centre 37 = .ok (.invokevirtual 70, 3) := by decide +kernel
theorem dX7_centre_40 : decode cX7_centre 40 = .ok (.ireturn, 1) := by decide +kernel
theorem dX7_centre_41 : decode cX7_centre 41 = .ok (.aload_n 0, 1) := by decide +kernel
theorem dX7_centre_42 : decode cX7_centre 42 = .ok (.getfield 37, 3) := by decide +kernel
theorem dX7_centre_45 : decode cX7_centre 45 = .ok (.aload_n 0, 1) := by decide +kernel
theorem dX7_centre_46 : decode cX7_centre 46 = .ok (.getfield 18, 3) := by decide +kernel
theorem dX7_centre_49 : decode cX7_centre 49 = .ok (.iload_n 1, 1) := by decide +kernel
theorem dX7_centre_50 : decode cX7_centre 50 = .ok (.aaload, 1) := by decide +kernel
theorem dX7_centre_51 : decode cX7_centre 51 = .ok (.invokevirtual 130, 3) := by decide +kernel
theorem dX7_centre_54 : decode cX7_centre 54 = .ok (.aload_n 0, 1) := by decide +kernel
theorem dX7_centre_55 : decode cX7_centre 55 = .ok (.getfield 37, 3) := by decide +kernel
theorem dX7_centre_58 : decode cX7_centre 58 = .ok (.aload_n 0, 1) := by decide +kernel
theorem dX7_centre_59 : decode cX7_centre 59 = .ok (.getfield 18, 3) := by decide +kernel
theorem dX7_centre_62 : decode cX7_centre 62 = .ok (.iload_n 1, 1) := by decide +kernel
theorem dX7_centre_63 : decode cX7_centre 63 = .ok (.aaload, 1) := by decide +kernel
theorem dX7_centre_64 : decode cX7_centre 64 = .ok (.invokevirtual 188, 3) := by decide +kernel
theorem dX7_centre_67 : decode cX7_centre 67 = .ok (.istore_n 3, 1) := by decide +kernel
theorem dX7_centre_68 : decode cX7_centre 68 = .ok (.aload_n 0, 1) := by decide +kernel
theorem dX7_centre_69 : decode cX7_centre 69 = .ok (.iload_n 2, 1) := by decide +kernel
theorem dX7_centre_70 : decode cX7_centre 70 = .ok (.ifCond .ne 7, 3) := by decide +kernel
theorem dX7_centre_73 : decode cX7_centre 73 = .ok (.iload_n 3, 1) := by decide +kernel
theorem dX7_centre_74 : decode cX7_centre 74 = .ok (.goto 17, 3) := by decide +kernel
theorem dX7_centre_77 : decode cX7_centre 77 = .ok (.aload_n 0, 1) := by decide +kernel
theorem dX7_centre_78 : decode cX7_centre 78 = .ok (.getfield 37, 3) := by decide +kernel
theorem dX7_centre_81 : decode cX7_centre 81 = .ok (.aload_n 0, 1) := by decide +kernel
theorem dX7_centre_82 : decode cX7_centre 82 = .ok (.getfield 18, 3) := by decide +kernel
theorem dX7_centre_85 : decode cX7_centre 85 = .ok (.iload_n 1, 1) := by decide +kernel
theorem dX7_centre_86 : decode cX7_centre 86 = .ok (.aaload, 1) := by decide +kernel
theorem dX7_centre_87 : decode cX7_centre 87 = .ok (.iload_n 3, 1) := by decide +kernel
theorem dX7_centre_88 : decode cX7_centre 88 = .ok (.invokevirtual 192, 3) := by decide +kernel
theorem dX7_centre_91 : decode cX7_centre 91 = .ok (.invokevirtual 100, 3) := by decide +kernel
theorem dX7_centre_94 : decode cX7_centre 94 = .ok (.ireturn, 1) := by decide +kernel
theorem dX7_nearest_0 : decode cX7_nearest 0 = .ok (.aload_n 0, 1) := by decide +kernel
theorem dX7_nearest_1 : decode cX7_nearest 1 = .ok (.iload_n 1, 1) := by decide +kernel
theorem dX7_nearest_2 : decode cX7_nearest 2 = .ok (.iload_n 2, 1) := by decide +kernel
theorem dX7_nearest_3 : decode cX7_nearest 3 = .ok (.invokevirtual 124, 3) := by decide +kernel
theorem dX7_nearest_6 : decode cX7_nearest 6 = .ok (.ifCond .ne 9, 3) := by decide +kernel
theorem dX7_nearest_9 : decode cX7_nearest 9 = .ok (.aload_n 0, 1) := by decide +kernel
theorem dX7_nearest_10 : decode cX7_nearest 10 = .ok (.iconst 1, 1) := by decide +kernel
theorem dX7_nearest_11 : decode cX7_nearest 11 = .ok (.invokevirtual 70, 3) := by decide +kernel
theorem dX7_nearest_14 : decode cX7_nearest 14 = .ok (.ireturn, 1) := by decide +kernel
theorem dX7_nearest_15 : decode cX7_nearest 15 = .ok (.aload_n 0, 1) := by decide +kernel
theorem dX7_nearest_16 : decode cX7_nearest 16 = .ok (.getfield 18, 3) := by decide +kernel
theorem dX7_nearest_19 : decode cX7_nearest 19 = .ok (.iload_n 1, 1) := by decide +kernel
theorem dX7_nearest_20 : decode cX7_nearest 20 = .ok (.aaload, 1) := by decide +kernel
theorem dX7_nearest_21 : decode cX7_nearest 21 = .ok (.getfield 185, 3) := by decide +kernel
theorem dX7_nearest_24 : decode cX7_nearest 24 = .ok (.ifCond .ne 9, 3) := by decide +kernel
theorem dX7_nearest_27 : decode cX7_nearest 27 = .ok (.aload_n 0, 1) := by decide +kernel
theorem dX7_nearest_28 : decode cX7_nearest 28 = .ok (.iconst 5, 1) := by decide +kernel
theorem dX7_nearest_29 : decode cX7_nearest 29 = .ok (.invokevirtual 70, 3) := by decide +kernel
theorem dX7_nearest_32 : decode cX7_nearest 32 = .ok (.ireturn, 1) := by decide +kernel
theorem dX7_nearest_33 : decode cX7_nearest 33 = .ok (.aload_n 0, 1) := by decide +kernel
theorem dX7_nearest_34 : decode cX7_nearest 34 = .ok (.getfield 37, 3) := by decide +kernel
theorem dX7_nearest_37 : decode cX7_nearest 37 = .ok (.aload_n 0, 1) := by decide +kernel
theorem dX7_nearest_38 : decode cX7_nearest 38 = .ok (.getfield 18, 3) := by decide +kernel
theorem dX7_nearest_41 : decode cX7_nearest 41 = .ok (.iload_n 1, 1) := by decide +kernel
theorem dX7_nearest_42 : decode cX7_nearest 42 = .ok (.aaload, 1) := by decide +kernel
theorem dX7_nearest_43 : decode cX7_nearest 43 = .ok (.invokevirtual 130, 3) := by decide +kernel
theorem dX7_nearest_46 : decode cX7_nearest 46 = .ok (.aload_n 0, 1) := by decide +kernel
theorem dX7_nearest_47 : decode cX7_nearest 47 = .ok (.aload_n 0, 1) := by decide +kernel
theorem dX7_nearest_48 : decode cX7_nearest 48 = .ok (.getfield 37, 3) := by decide +kernel
theorem dX7_nearest_51 : decode cX7_nearest 51 = .ok (.aload_n 0, 1) := by decide +kernel
theorem dX7_nearest_52 : decode cX7_nearest 52 = .ok (.getfield 18, 3) := by decide +kernel
theorem dX7_nearest_55 : decode cX7_nearest 55 = .ok (.iload_n 1, 1) := by decide +kernel
theorem dX7_nearest_56 : decode cX7_nearest 56 = .ok (.aaload, 1) := by decide +kernel
theorem dX7_nearest_57 : decode cX7_nearest 57 = .ok (.iload_n 2, 1) := by decide +kernel
theorem dX7_nearest_58 : decode cX7_nearest 58 = .ok (.invokevirtual 195, 3) := by decide +kernel
theorem dX7_nearest_61 : decode cX7_nearest 61 = .ok (.invokevirtual 100, 3) := by decide +kernel
theorem dX7_nearest_64 : decode cX7_nearest 64 = .ok (.ireturn, 1) := by decide +kernel
theorem dX7_ring_0 : decode cX7_ring 0 = .ok (.aload_n 0, 1) := by decide +kernel
theorem dX7_ring_1 : decode cX7_ring 1 = .ok (.iload_n 1, 1) := by decide +kernel
theorem dX7_ring_2 : decode cX7_ring 2 = .ok (.iload_n 2, 1) := by decide +kernel
theorem dX7_ring_3 : decode cX7_ring 3 = .ok (.invokevirtual 124, 3) := by decide +kernel
theorem dX7_ring_6 : decode cX7_ring 6 = .ok (.iload_n 3, 1) := by decide +kernel
theorem dX7_ring_7 : decode cX7_ring 7 = .ok (.ifCond .lt 7, 3) := by decide +kernel
theorem dX7_ring_10 : decode cX7_ring 10 = .ok (.iconst 1, 1) := by decide +kernel
theorem dX7_ring_11 : decode cX7_ring 11 = .ok (.goto 4, 3) := by decide +kernel
theorem dX7_ring_14 : decode cX7_ring 14 = .ok (.iconst 0, 1) := by decide +kernel
theorem dX7_ring_15 : decode cX7_ring 15 = .ok (.invokestatic 144, 3) := by decide +kernel
theorem dX7_ring_18 : decode cX7_ring 18 = .ok (.istore 4, 2) := by decide +kernel
theorem dX7_ring_20 : decode cX7_ring 20 = .ok (.iload 4, 2) := by decide +kernel
theorem dX7_ring_22 : decode cX7_ring 22 = .ok (.ifCond .eq 10, 3) := by decide +kernel
theorem dX7_ring_25 : decode cX7_ring 25 = .ok (.aload_n 0, 1) := by decide +kernel
theorem dX7_ring_26 : decode cX7_ring 26 = .ok (.iload 4, 2) := by decide +kernel
theorem dX7_ring_28 : decode cX7_ring 28 = .ok (.invokevirtual 70, 3) := by decide +kernel
theorem dX7_ring_31 : decode cX7_ring 31 = .ok (.ireturn, 1) := by decide +kernel
theorem dX7_ring_32 : decode cX7_ring 32 = .ok (.aload_n 0, 1) := by decide +kernel
theorem dX7_ring_33 : decode cX7_ring 33 = .ok (.getfield 37, 3) := by decide +kernel
theorem dX7_ring_36 : decode cX7_ring 36 = .ok (.aload_n 0, 1) := by decide +kernel
theorem dX7_ring_37 : decode cX7_ring 37 = .ok (.getfield 18, 3) := by decide +kernel
theorem dX7_ring_40 : decode cX7_ring 40 = .ok (.iload_n 1, 1) := by decide +kernel
theorem dX7_ring_41 : decode cX7_ring 41 = .ok (.aaload, 1) := by decide +kernel
theorem dX7_ring_42 : decode cX7_ring 42 = .ok (.invokevirtual 130, 3) := by decide +kernel
theorem dX7_ring_45 : decode cX7_ring 45 = .ok (.aload_n 0, 1) := by decide +kernel
theorem dX7_ring_46 : decode cX7_ring 46 = .ok (.aload_n 0, 1) := by decide +kernel
theorem dX7_ring_47 : decode cX7_ring 47 = .ok (.getfield 37, 3) := by decide +kernel
theorem dX7_ring_50 : decode cX7_ring 50 = .ok (.aload_n 0, 1) := by decide +kernel
theorem dX7_ring_51 : decode cX7_ring 51 = .ok (.getfield 18, 3) := by decide +kernel
theorem dX7_ring_54 : decode cX7_ring 54 = .ok (.iload_n 1, 1) := by decide +kernel
theorem dX7_ring_55 : decode cX7_ring 55 = .ok (.aaload, 1) := by decide +kernel
theorem dX7_ring_56 : decode cX7_ring 56 = .ok (.iload_n 2, 1) := by decide +kernel
theorem dX7_ring_57 : decode cX7_ring 57 = .ok (.iload_n 3, 1) := by decide +kernel
theorem dX7_ring_58 : decode cX7_ring 58 = .ok (.invokevirtual 198, 3) := by decide +kernel
theorem dX7_ring_61 : decode cX7_ring 61 = .ok (.invokevirtual 100, 3) := by decide +kernel
theorem dX7_ring_64 : decode cX7_ring 64 = .ok (.ireturn, 1) := by decide +kernel
theorem dX7_column_0 : decode cX7_column 0 = .ok (.aload_n 0, 1) := by decide +kernel
theorem dX7_column_1 : decode cX7_column 1 = .ok (.iload_n 1, 1) := by decide +kernel
theorem dX7_column_2 : decode cX7_column 2 = .ok (.iload_n 2, 1) := by decide +kernel
theorem dX7_column_3 : decode cX7_column 3 = .ok (.invokevirtual 110, 3) := by decide +kernel
theorem dX7_column_6 : decode cX7_column 6 = .ok (.ifCond .ne 9, 3) := by decide +kernel
theorem dX7_column_9 : decode cX7_column 9 = .ok (.aload_n 0, 1) := by decide +kernel
theorem dX7_column_10 : decode cX7_column 10 = .ok (.iconst 1, 1) := by decide +kernel
theorem dX7_column_11 : decode cX7_column 11 = .ok (.invokevirtual 70, 3) := by decide +kernel
theorem dX7_column_14 : decode cX7_column 14 = .ok (.ireturn, 1) := by decide +kernel
theorem dX7_column_15 : decode cX7_column 15 = .ok (.aload_n 0, 1) := by decide +kernel
theorem dX7_column_16 : decode cX7_column 16 = .ok (.iload_n 1, 1) := by decide +kernel
theorem dX7_column_17 : decode cX7_column 17 = .ok (.iload_n 2, 1) := by decide +kernel
theorem dX7_column_18 : decode cX7_column 18 = .ok (.iload_n 3, 1) := by decide +kernel
theorem dX7_column_19 : decode cX7_column 19 = .ok (.invokevirtual 201, 3) := by decide +kernel
theorem dX7_column_22 : decode cX7_column 22 = .ok (.ifCond .ne 9, 3) := by decide +kernel
theorem dX7_column_25 : decode cX7_column 25 = .ok (.aload_n 0, 1) := by decide +kernel
theorem dX7_column_26 : decode cX7_column 26 = .ok (.iconst 2, 1) := by decide +kernel
theorem dX7_column_27 : decode cX7_column 27 = .ok (.invokevirtual 70, 3) := by decide +kernel
theorem dX7_column_30 : decode cX7_column 30 = .ok (.ireturn, 1) := by decide +kernel
theorem dX7_column_31 : decode cX7_column 31 = .ok (.aload_n 0, 1) := by decide +kernel
theorem dX7_column_32 : decode cX7_column 32 = .ok (.getfield 37, 3) := by decide +kernel
theorem dX7_column_35 : decode cX7_column 35 = .ok (.aload_n 0, 1) := by decide +kernel
theorem dX7_column_36 : decode cX7_column 36 = .ok (.getfield 18, 3) := by decide +kernel
theorem dX7_column_39 : decode cX7_column 39 = .ok (.iload_n 1, 1) := by decide +kernel
theorem dX7_column_40 : decode cX7_column 40 = .ok (.aaload, 1) := by decide +kernel
theorem dX7_column_41 : decode cX7_column 41 = .ok (.invokevirtual 130, 3) := by decide +kernel
theorem dX7_column_44 : decode cX7_column 44 = .ok (.aload_n 0, 1) := by decide +kernel
theorem dX7_column_45 : decode cX7_column 45 = .ok (.aload_n 0, 1) := by decide +kernel
theorem dX7_column_46 : decode cX7_column 46 = .ok (.getfield 37, 3) := by decide +kernel
theorem dX7_column_49 : decode cX7_column 49 = .ok (.aload_n 0, 1) := by decide +kernel
theorem dX7_column_50 : decode cX7_column 50 = .ok (.getfield 18, 3) := by decide +kernel
theorem dX7_column_53 : decode cX7_column 53 = .ok (.iload_n 1, 1) := by decide +kernel
theorem dX7_column_54 : decode cX7_column 54 = .ok (.aaload, 1) := by decide +kernel
theorem dX7_column_55 : decode cX7_column 55 = .ok (.iload_n 2, 1) := by decide +kernel
theorem dX7_column_56 : decode cX7_column 56 = .ok (.iload_n 3, 1) := by decide +kernel
theorem dX7_column_57 : decode cX7_column 57 = .ok (.invokevirtual 205, 3) := by decide +kernel
theorem dX7_column_60 : decode cX7_column 60 = .ok (.invokevirtual 100, 3) := by decide +kernel
theorem dX7_column_63 : decode cX7_column 63 = .ok (.ireturn, 1) := by decide +kernel
theorem dX7_worth_0 : decode cX7_worth 0 = .ok (.aload_n 0, 1) := by decide +kernel
theorem dX7_worth_1 : decode cX7_worth 1 = .ok (.iload_n 1, 1) := by decide +kernel
theorem dX7_worth_2 : decode cX7_worth 2 = .ok (.iload_n 2, 1) := by decide +kernel
theorem dX7_worth_3 : decode cX7_worth 3 = .ok (.invokevirtual 124, 3) := by decide +kernel
theorem dX7_worth_6 : decode cX7_worth 6 = .ok (.iload_n 3, 1) := by decide +kernel
theorem dX7_worth_7 : decode cX7_worth 7 = .ok (.invokestatic 141, 3) := by decide +kernel
theorem dX7_worth_10 : decode cX7_worth 10 = .ok (.invokestatic 144, 3) := by decide +kernel
theorem dX7_worth_13 : decode cX7_worth 13 = .ok (.istore 4, 2) := by decide +kernel
theorem dX7_worth_15 : decode cX7_worth 15 = .ok (.iload 4, 2) := by decide +kernel
theorem dX7_worth_17 : decode cX7_worth 17 = .ok (.ifCond .eq 10, 3) := by decide +kernel
theorem dX7_worth_20 : decode cX7_worth 20 = .ok (.aload_n 0, 1) := by decide +kernel
theorem dX7_worth_21 : decode cX7_worth 21 = .ok (.iload 4, 2) := by decide +kernel
theorem dX7_worth_23 : decode cX7_worth 23 = .ok (.invokevirtual 70, 3) := by decide +kernel
theorem dX7_worth_26 : decode cX7_worth 26 = .ok (.ireturn, 1) := by decide +kernel
theorem dX7_worth_27 : decode cX7_worth 27 = .ok (.aload_n 0, 1) := by decide +kernel
theorem dX7_worth_28 : decode cX7_worth 28 = .ok (.getfield 18, 3) := by decide +kernel
theorem dX7_worth_31 : decode cX7_worth 31 = .ok (.iload_n 1, 1) := by decide +kernel
theorem dX7_worth_32 : decode cX7_worth 32 = .ok (.aaload, 1) := by decide +kernel
theorem dX7_worth_33 : decode cX7_worth 33 = .ok (.iload_n 2, 1) := by decide +kernel
theorem dX7_worth_34 : decode cX7_worth 34 = .ok (.invokevirtual 127, 3) := by decide +kernel
theorem dX7_worth_37 : decode cX7_worth 37 = .ok (.ifCond .ne 9, 3) := by decide +kernel
theorem dX7_worth_40 : decode cX7_worth 40 = .ok (.aload_n 0, 1) := by decide +kernel
theorem dX7_worth_41 : decode cX7_worth 41 = .ok (.iconst 5, 1) := by decide +kernel
theorem dX7_worth_42 : decode cX7_worth 42 = .ok (.invokevirtual 70, 3) := by decide +kernel
theorem dX7_worth_45 : decode cX7_worth 45 = .ok (.ireturn, 1) := by decide +kernel
theorem dX7_worth_46 : decode cX7_worth 46 = .ok (.aload_n 0, 1) := by decide +kernel
theorem dX7_worth_47 : decode cX7_worth 47 = .ok (.aload_n 0, 1) := by decide +kernel
theorem dX7_worth_48 : decode cX7_worth 48 = .ok (.getfield 18, 3) := by decide +kernel
theorem dX7_worth_51 : decode cX7_worth 51 = .ok (.iload_n 1, 1) := by decide +kernel
theorem dX7_worth_52 : decode cX7_worth 52 = .ok (.aaload, 1) := by decide +kernel
theorem dX7_worth_53 : decode cX7_worth 53 = .ok (.iload_n 3, 1) := by decide +kernel
theorem dX7_worth_54 : decode cX7_worth 54 = .ok (.invokevirtual 155, 3) := by decide +kernel
theorem dX7_worth_57 : decode cX7_worth 57 = .ok (.aload_n 0, 1) := by decide +kernel
theorem dX7_worth_58 : decode cX7_worth 58 = .ok (.aload_n 0, 1) := by decide +kernel
theorem dX7_worth_59 : decode cX7_worth 59 = .ok (.getfield 37, 3) := by decide +kernel
theorem dX7_worth_62 : decode cX7_worth 62 = .ok (.iload_n 2, 1) := by decide +kernel
theorem dX7_worth_63 : decode cX7_worth 63 = .ok (.iload_n 3, 1) := by decide +kernel
theorem dX7_worth_64 : decode cX7_worth 64 = .ok (.invokevirtual 208, 3) := by decide +kernel
theorem dX7_worth_67 : decode cX7_worth 67 = .ok (.invokevirtual 100, 3) := by decide +kernel
theorem dX7_worth_70 : decode cX7_worth 70 = .ok (.ireturn, 1) := by decide +kernel
theorem dX7_fewest_0 : decode cX7_fewest 0 = .ok (.aload_n 0, 1) := by decide +kernel
theorem dX7_fewest_1 : decode cX7_fewest 1 = .ok (.iload_n 1, 1) := by decide +kernel
theorem dX7_fewest_2 : decode cX7_fewest 2 = .ok (.invokevirtual 103, 3) := by decide +kernel
theorem dX7_fewest_5 : decode cX7_fewest 5 = .ok (.ifCond .eq 17, 3) := by decide +kernel
theorem dX7_fewest_8 : decode cX7_fewest 8 = .ok (.iload_n 3, 1) := by decide +kernel
theorem dX7_fewest_9 : decode cX7_fewest 9 = .ok (.ifCond .lt 13, 3) := by decide +kernel
theorem dX7_fewest_12 : decode cX7_fewest 12 = .ok (.iload_n 3, 1) := by decide +kernel
theorem dX7_fewest_13 : decode cX7_fewest 13 = .ok (.bipush 9, 2) := by decide +kernel
theorem dX7_fewest_15 : decode cX7_fewest 15 = .ok (.if_icmp .gt 7, 3) := by decide +kernel
theorem dX7_fewest_18 : decode cX7_fewest 18 = .ok (.iconst 1, 1) := by decide +kernel
theorem dX7_fewest_19 : decode cX7_fewest 19 = .ok (.goto 4, 3) := by decide +kernel
theorem dX7_fewest_22 : decode cX7_fewest 22 = .ok (.iconst 0, 1) := by decide +kernel
theorem dX7_fewest_23 : decode cX7_fewest 23 = .ok (.iload_n 2, 1) := by decide +kernel
theorem dX7_fewest_24 : decode cX7_fewest 24 = .ok (.invokestatic 141, 3) := by decide +kernel
theorem dX7_fewest_27 : decode cX7_fewest 27 = .ok (.invokestatic 144, 3) := by decide +kernel
theorem dX7_fewest_30 : decode cX7_fewest 30 = .ok (.istore 4, 2) := by decide +kernel
theorem dX7_fewest_32 : decode cX7_fewest 32 = .ok (.iload 4, 2) := by decide +kernel
theorem dX7_fewest_34 : decode cX7_fewest 34 = .ok (.ifCond .eq 10, 3) := by decide +kernel
theorem dX7_fewest_37 : decode cX7_fewest 37 = .ok (.aload_n 0, 1) := by decide +kernel
theorem dX7_fewest_38 : decode cX7_fewest 38 = .ok (.iload 4, 2) := by decide +kernel
theorem dX7_fewest_40 : decode cX7_fewest 40 = .ok (.invokevirtual 70, 3) := by decide +kernel
theorem dX7_fewest_43 : decode cX7_fewest 43 = .ok (.ireturn, 1) := by decide +kernel
theorem dX7_fewest_44 : decode cX7_fewest 44 = .ok (.aload_n 0, 1) := by decide +kernel
theorem dX7_fewest_45 : decode cX7_fewest 45 = .ok (.getfield 18, 3) := by decide +kernel
theorem dX7_fewest_48 : decode cX7_fewest 48 = .ok (.iload_n 1, 1) := by decide +kernel
theorem dX7_fewest_49 : decode cX7_fewest 49 = .ok (.aaload, 1) := by decide +kernel
theorem dX7_fewest_50 : decode cX7_fewest 50 = .ok (.getfield 211, 3) := by decide +kernel
theorem dX7_fewest_53 : decode cX7_fewest 53 = .ok (.bipush 81, 2) := by decide +kernel
theorem dX7_fewest_55 : decode cX7_fewest 55 = .ok (.if_icmp .le 9, 3) := by decide +kernel
theorem dX7_fewest_58 : decode cX7_fewest 58 = .ok (.aload_n 0, 1) := by decide +kernel
theorem dX7_fewest_59 : decode cX7_fewest 59 = .ok (.iconst 5, 1) := by decide +kernel
theorem dX7_fewest_60 : decode cX7_fewest 60 = .ok (.invokevirtual 70, 3) := by decide +kernel
theorem dX7_fewest_63 : decode cX7_fewest 63 = .ok (.ireturn, 1) := by decide +kernel
theorem dX7_fewest_64 : decode cX7_fewest 64 = .ok (.aload_n 0, 1) := by decide +kernel
theorem dX7_fewest_65 : decode cX7_fewest 65 = .ok (.getfield 37, 3) := by decide +kernel
theorem dX7_fewest_68 : decode cX7_fewest 68 = .ok (.aload_n 0, 1) := by decide +kernel
theorem dX7_fewest_69 : decode cX7_fewest 69 = .ok (.getfield 18, 3) := by decide +kernel
theorem dX7_fewest_72 : decode cX7_fewest 72 = .ok (.iload_n 1, 1) := by decide +kernel
theorem dX7_fewest_73 : decode cX7_fewest 73 = .ok (.aaload, 1) := by decide +kernel
theorem dX7_fewest_74 : decode cX7_fewest 74 = .ok (.invokevirtual 130, 3) := by decide +kernel
theorem dX7_fewest_77 : decode cX7_fewest 77 = .ok (.aload_n 0, 1) := by decide +kernel
theorem dX7_fewest_78 : decode cX7_fewest 78 = .ok (.getfield 44, 3) := by decide +kernel
theorem dX7_fewest_81 : decode cX7_fewest 81 = .ok (.aload_n 0, 1) := by decide +kernel
theorem dX7_fewest_82 : decode cX7_fewest 82 = .ok (.getfield 37, 3) := by decide +kernel
theorem dX7_fewest_85 : decode cX7_fewest 85 = .ok (.iload_n 2, 1) := by decide +kernel
theorem dX7_fewest_86 : decode cX7_fewest 86 = .ok (.invokevirtual 212, 3) := by decide +kernel
theorem dX7_fewest_89 : decode cX7_fewest 89 = .ok (.aload_n 0, 1) := by decide +kernel
theorem dX7_fewest_90 : decode cX7_fewest 90 = .ok (.aload_n 0, 1) := by decide +kernel
theorem dX7_fewest_91 : decode cX7_fewest 91 = .ok (.getfield 44, 3) := by decide +kernel
theorem dX7_fewest_94 : decode cX7_fewest 94 = .ok (.iload_n 3, 1) := by decide +kernel
theorem dX7_fewest_95 : decode cX7_fewest 95 = .ok (.invokevirtual 216, 3) := by decide +kernel
theorem dX7_fewest_98 : decode cX7_fewest 98 = .ok (.invokevirtual 100, 3) := by decide +kernel
theorem dX7_fewest_101 : decode cX7_fewest 101 = .ok (.ireturn, 1) := by decide +kernel
theorem dX7_set_0 : decode cX7_set 0 = .ok (.aload_n 0, 1) := by decide +kernel
theorem dX7_set_1 : decode cX7_set 1 = .ok (.iload_n 1, 1) := by decide +kernel
theorem dX7_set_2 : decode cX7_set 2 = .ok (.iload_n 2, 1) := by decide +kernel
theorem dX7_set_3 : decode cX7_set 3 = .ok (.invokevirtual 124, 3) := by decide +kernel
theorem dX7_set_6 : decode cX7_set 6 = .ok (.ifCond .ne 9, 3) := by decide +kernel
theorem dX7_set_9 : decode cX7_set 9 = .ok (.aload_n 0, 1) := by decide +kernel
theorem dX7_set_10 : decode cX7_set 10 = .ok (.iconst 1, 1) := by decide +kernel
theorem dX7_set_11 : decode cX7_set 11 = .ok (.invokevirtual 70, 3) := by decide +kernel
theorem dX7_set_14 : decode cX7_set 14 = .ok (.ireturn, 1) := by decide +kernel
theorem dX7_set_15 : decode cX7_set 15 = .ok (.aload_n 0, 1) := by decide +kernel
theorem dX7_set_16 : decode cX7_set 16 = .ok (.getfield 18, 3) := by decide +kernel
theorem dX7_set_19 : decode cX7_set 19 = .ok (.iload_n 1, 1) := by decide +kernel
theorem dX7_set_20 : decode cX7_set 20 = .ok (.aaload, 1) := by decide +kernel
theorem dX7_set_21 : decode cX7_set 21 = .ok (.iload_n 2, 1) := by decide +kernel
theorem dX7_set_22 : decode cX7_set 22 = .ok (.invokevirtual 127, 3) := by decide +kernel
theorem dX7_set_25 : decode cX7_set 25 = .ok (.iload_n 3, 1) := by decide +kernel
theorem dX7_set_26 : decode cX7_set 26 = .ok (.if_icmp .ne 9, 3) := by decide +kernel
theorem dX7_set_29 : decode cX7_set 29 = .ok (.aload_n 0, 1) := by decide +kernel
theorem dX7_set_30 : decode cX7_set 30 = .ok (.iconst 5, 1) := by decide +kernel
theorem dX7_set_31 : decode cX7_set 31 = .ok (.invokevirtual 70, 3) := by decide +kernel
theorem dX7_set_34 : decode cX7_set 34 = .ok (.ireturn, 1) := by decide +kernel
theorem dX7_set_35 : decode cX7_set 35 = .ok (.aload_n 0, 1) := by decide +kernel
theorem dX7_set_36 : decode cX7_set 36 = .ok (.getfield 23, 3) := by decide +kernel
theorem dX7_set_39 : decode cX7_set 39 = .ok (.aload_n 0, 1) := by decide +kernel
theorem dX7_set_40 : decode cX7_set 40 = .ok (.getfield 18, 3) := by decide +kernel
theorem dX7_set_43 : decode cX7_set 43 = .ok (.iload_n 1, 1) := by decide +kernel
theorem dX7_set_44 : decode cX7_set 44 = .ok (.aaload, 1) := by decide +kernel
theorem dX7_set_45 : decode cX7_set 45 = .ok (.invokevirtual 218, 3) := by decide +kernel
theorem dX7_set_48 : decode cX7_set 48 = .ok (.iload_n 3, 1) := by decide +kernel
theorem dX7_set_49 : decode cX7_set 49 = .ok (.ifCond .eq 14, 3) := by decide +kernel
theorem dX7_set_52 : decode cX7_set 52 = .ok (.aload_n 0, 1) := by decide +kernel
theorem dX7_set_53 : decode cX7_set 53 = .ok (.getfield 23, 3) := by decide +kernel
theorem dX7_set_56 : decode cX7_set 56 = .ok (.iload_n 2, 1) := by decide +kernel
theorem dX7_set_57 : decode cX7_set 57 = .ok (.invokevirtual 221, 3) := by decide +kernel
theorem dX7_set_60 : decode cX7_set 60 = .ok (.goto 11, 3) := by decide +kernel
theorem dX7_set_63 : decode cX7_set 63 = .ok (.aload_n 0, 1) := by decide +kernel
theorem dX7_set_64 : decode cX7_set 64 = .ok (.getfield 23, 3) := by decide +kernel
theorem dX7_set_67 : decode cX7_set 67 = .ok (.iload_n 2, 1) := by decide +kernel
theorem dX7_set_68 : decode cX7_set 68 = .ok (.invokevirtual 224, 3) := by decide +kernel
theorem dX7_set_71 : decode cX7_set 71 = .ok (.aload_n 0, 1) := by decide +kernel
theorem dX7_set_72 : decode cX7_set 72 = .ok (.iload_n 1, 1) := by decide +kernel
theorem dX7_set_73 : decode cX7_set 73 = .ok (.aload_n 0, 1) := by decide +kernel
theorem dX7_set_74 : decode cX7_set 74 = .ok (.getfield 23, 3) := by decide +kernel
theorem dX7_set_77 : decode cX7_set 77 = .ok (.getfield 185, 3) := by decide +kernel
theorem dX7_set_80 : decode cX7_set 80 = .ok (.invokevirtual 227, 3) := by decide +kernel
theorem dX7_set_83 : decode cX7_set 83 = .ok (.ireturn, 1) := by decide +kernel
theorem dX7_greedy_0 : decode cX7_greedy 0 = .ok (.aload_n 0, 1) := by decide +kernel
theorem dX7_greedy_1 : decode cX7_greedy 1 = .ok (.iload_n 1, 1) := by decide +kernel
theorem dX7_greedy_2 : decode cX7_greedy 2 = .ok (.invokevirtual 103, 3) := by decide +kernel
theorem dX7_greedy_5 : decode cX7_greedy 5 = .ok (.iload_n 2, 1) := by decide +kernel
theorem dX7_greedy_6 : decode cX7_greedy 6 = .ok (.invokestatic 141, 3) := by decide +kernel
theorem dX7_greedy_9 : decode cX7_greedy 9 = .ok (.invokestatic 144, 3) := by decide +kernel
theorem dX7_greedy_12 : decode cX7_greedy 12 = .ok (.istore_n 3, 1) := by decide +kernel
theorem dX7_greedy_13 : decode cX7_greedy 13 = .ok (.iload_n 3, 1) := by decide +kernel
theorem dX7_greedy_14 : decode cX7_greedy 14 = .ok (.ifCond .eq 9, 3) := by decide +kernel
theorem dX7_greedy_17 : decode cX7_greedy 17 = .ok (.aload_n 0, 1) := by decide +kernel
theorem dX7_greedy_18 : decode cX7_greedy 18 = .ok (.iload_n 3, 1) := by decide +kernel
theorem dX7_greedy_19 : decode cX7_greedy 19 = .ok (.invokevirtual 70, 3) := by decide +kernel
theorem dX7_greedy_22 : decode cX7_greedy 22 = .ok (.ireturn, 1) := by decide +kernel
theorem dX7_greedy_23 : decode cX7_greedy 23 = .ok (.aload_n 0, 1) := by decide +kernel
theorem dX7_greedy_24 : decode cX7_greedy 24 = .ok (.getfield 23, 3) := by decide +kernel
theorem dX7_greedy_27 : decode cX7_greedy 27 = .ok (.aload_n 0, 1) := by decide +kernel
theorem dX7_greedy_28 : decode cX7_greedy 28 = .ok (.getfield 18, 3) := by decide +kernel
theorem dX7_greedy_31 : decode cX7_greedy 31 = .ok (.iload_n 1, 1) := by decide +kernel
theorem dX7_greedy_32 : decode cX7_greedy 32 = .ok (.aaload, 1) := by decide +kernel
theorem dX7_greedy_33 : decode cX7_greedy 33 = .ok (.invokevirtual 218, 3) := by decide +kernel
theorem dX7_greedy_36 : decode cX7_greedy 36 = .ok (.aload_n 0, 1) := by decide +kernel
theorem dX7_greedy_37 : decode cX7_greedy 37 = .ok (.aload_n 0, 1) := by decide +kernel
theorem dX7_greedy_38 : decode cX7_greedy 38 = .ok (.getfield 23, 3) := by decide +kernel
theorem dX7_greedy_41 : decode cX7_greedy 41 = .ok (.iload_n 2, 1) := by decide +kernel
theorem dX7_greedy_42 : decode cX7_greedy 42 = .ok (.invokevirtual 155, 3) := by decide +kernel
theorem dX7_greedy_45 : decode cX7_greedy 45 = .ok (.aload_n 0, 1) := by decide +kernel
theorem dX7_greedy_46 : decode cX7_greedy 46 = .ok (.iload_n 1, 1) := by decide +kernel
theorem dX7_greedy_47 : decode cX7_greedy 47 = .ok (.aload_n 0, 1) := by decide +kernel
theorem dX7_greedy_48 : decode cX7_greedy 48 = .ok (.getfield 37, 3) := by decide +kernel
theorem dX7_greedy_51 : decode cX7_greedy 51 = .ok (.aload_n 0, 1) := by decide +kernel
theorem dX7_greedy_52 : decode cX7_greedy 52 = .ok (.getfield 23, 3) := by decide +kernel
theorem dX7_greedy_55 : decode cX7_greedy 55 = .ok (.iload_n 2, 1) := by decide +kernel
theorem dX7_greedy_56 : decode cX7_greedy 56 = .ok (.invokevirtual 230, 3) := by decide +kernel
theorem dX7_greedy_59 : decode cX7_greedy 59 = .ok (.invokevirtual 227, 3) := by decide +kernel
theorem dX7_greedy_62 : decode cX7_greedy 62 = .ok (.ireturn, 1) := by decide +kernel
theorem dX7_thin_0 : decode cX7_thin 0 = .ok (.aload_n 0, 1) := by decide +kernel
theorem dX7_thin_1 : decode cX7_thin 1 = .ok (.iload_n 1, 1) := by decide +kernel
theorem dX7_thin_2 : decode cX7_thin 2 = .ok (.invokevirtual 103, 3) := by decide +kernel
theorem dX7_thin_5 : decode cX7_thin 5 = .ok (.iload_n 2, 1) := by decide +kernel
theorem dX7_thin_6 : decode cX7_thin 6 = .ok (.invokestatic 141, 3) := by decide +kernel
theorem dX7_thin_9 : decode cX7_thin 9 = .ok (.invokestatic 144, 3) := by decide +kernel
theorem dX7_thin_12 : decode cX7_thin 12 = .ok (.istore_n 3, 1) := by decide +kernel
theorem dX7_thin_13 : decode cX7_thin 13 = .ok (.iload_n 3, 1) := by decide +kernel
theorem dX7_thin_14 : decode cX7_thin 14 = .ok (.ifCond .eq 9, 3) := by decide +kernel
theorem dX7_thin_17 : decode cX7_thin 17 = .ok (.aload_n 0, 1) := by decide +kernel
theorem dX7_thin_18 : decode cX7_thin 18 = .ok (.iload_n 3, 1) := by decide +kernel
theorem dX7_thin_19 : decode cX7_thin 19 = .ok (.invokevirtual 70, 3) := by decide +kernel
theorem dX7_thin_22 : decode cX7_thin 22 = .ok (.ireturn, 1) := by decide +kernel
theorem dX7_thin_23 : decode cX7_thin 23 = .ok (.aload_n 0, 1) := by decide +kernel
theorem dX7_thin_24 : decode cX7_thin 24 = .ok (.getfield 23, 3) := by decide +kernel
theorem dX7_thin_27 : decode cX7_thin 27 = .ok (.aload_n 0, 1) := by decide +kernel
theorem dX7_thin_28 : decode cX7_thin 28 = .ok (.getfield 18, 3) := by decide +kernel
theorem dX7_thin_31 : decode cX7_thin 31 = .ok (.iload_n 1, 1) := by decide +kernel
theorem dX7_thin_32 : decode cX7_thin 32 = .ok (.aaload, 1) := by decide +kernel
theorem dX7_thin_33 : decode cX7_thin 33 = .ok (.invokevirtual 218, 3) := by decide +kernel
theorem dX7_thin_36 : decode cX7_thin 36 = .ok (.aload_n 0, 1) := by decide +kernel
theorem dX7_thin_37 : decode cX7_thin 37 = .ok (.aload_n 0, 1) := by decide +kernel
theorem dX7_thin_38 : decode cX7_thin 38 = .ok (.getfield 23, 3) := by decide +kernel
theorem dX7_thin_41 : decode cX7_thin 41 = .ok (.iload_n 2, 1) := by decide +kernel
theorem dX7_thin_42 : decode cX7_thin 42 = .ok (.invokevirtual 155, 3) := by decide +kernel
theorem dX7_thin_45 : decode cX7_thin 45 = .ok (.aload_n 0, 1) := by decide +kernel
theorem dX7_thin_46 : decode cX7_thin 46 = .ok (.iload_n 1, 1) := by decide +kernel
theorem dX7_thin_47 : decode cX7_thin 47 = .ok (.aload_n 0, 1) := by decide +kernel
theorem dX7_thin_48 : decode cX7_thin 48 = .ok (.getfield 37, 3) := by decide +kernel
theorem dX7_thin_51 : decode cX7_thin 51 = .ok (.aload_n 0, 1) := by decide +kernel
theorem dX7_thin_52 : decode cX7_thin 52 = .ok (.getfield 23, 3) := by decide +kernel
theorem dX7_thin_55 : decode cX7_thin 55 = .ok (.iload_n 2, 1) := by decide +kernel
theorem dX7_thin_56 : decode cX7_thin 56 = .ok (.invokevirtual 233, 3) := by decide +kernel
theorem dX7_thin_59 : decode cX7_thin 59 = .ok (.invokevirtual 227, 3) := by decide +kernel
theorem dX7_thin_62 : decode cX7_thin 62 = .ok (.ireturn, 1) := by decide +kernel
theorem dX7_better_0 : decode cX7_better 0 = .ok (.aload_n 0, 1) := by decide +kernel
theorem dX7_better_1 : decode cX7_better 1 = .ok (.iload_n 1, 1) := by decide +kernel
theorem dX7_better_2 : decode cX7_better 2 = .ok (.invokevirtual 103, 3) := by decide +kernel
theorem dX7_better_5 : decode cX7_better 5 = .ok (.iload_n 2, 1) := by decide +kernel
theorem dX7_better_6 : decode cX7_better 6 = .ok (.invokestatic 141, 3) := by decide +kernel
theorem dX7_better_9 : decode cX7_better 9 = .ok (.invokestatic 144, 3) := by decide +kernel
theorem dX7_better_12 : decode cX7_better 12 = .ok (.istore_n 3, 1) := by decide +kernel
theorem dX7_better_13 : decode cX7_better 13 = .ok (.iload_n 3, 1) := by decide +kernel
theorem dX7_better_14 : decode cX7_better 14 = .ok (.ifCond .eq 9, 3) := by decide +kernel
theorem dX7_better_17 : decode cX7_better 17 = .ok (.aload_n 0, 1) := by decide +kernel
theorem dX7_better_18 : decode cX7_better 18 = .ok (.iload_n 3, 1) := by decide +kernel
theorem dX7_better_19 : decode cX7_better 19 = .ok (.invokevirtual 70, 3) := by decide +kernel
theorem dX7_better_22 : decode cX7_better 22 = .ok (.ireturn, 1) := by decide +kernel
theorem dX7_better_23 : decode cX7_better 23 = .ok (.aload_n 0, 1) := by decide +kernel
theorem dX7_better_24 : decode cX7_better 24 = .ok (.getfield 18, 3) := by decide +kernel
theorem dX7_better_27 : decode cX7_better 27 = .ok (.iload_n 1, 1) := by decide +kernel
theorem dX7_better_28 : decode cX7_better 28 = .ok (.aaload, 1) := by decide +kernel
theorem dX7_better_29 : decode cX7_better 29 = .ok (.getfield 211, 3) := by decide +kernel
theorem dX7_better_32 : decode cX7_better 32 = .ok (.bipush 81, 2) := by decide +kernel
theorem dX7_better_34 : decode cX7_better 34 = .ok (.if_icmp .le 9, 3) := by decide +kernel
theorem dX7_better_37 : decode cX7_better 37 = .ok (.aload_n 0, 1) := by decide +kernel
theorem dX7_better_38 : decode cX7_better 38 = .ok (.iconst 5, 1) := by decide +kernel
theorem dX7_better_39 : decode cX7_better 39 = .ok (.invokevirtual 70, 3) := by decide +kernel
theorem dX7_better_42 : decode cX7_better 42 = .ok (.ireturn, 1) := by decide +kernel
theorem dX7_better_43 : decode cX7_better 43 = .ok (.aload_n 0, 1) := by decide +kernel
theorem dX7_better_44 : decode cX7_better 44 = .ok (.getfield 23, 3) := by decide +kernel
theorem dX7_better_47 : decode cX7_better 47 = .ok (.aload_n 0, 1) := by decide +kernel
theorem dX7_better_48 : decode cX7_better 48 = .ok (.getfield 18, 3) := by decide +kernel
theorem dX7_better_51 : decode cX7_better 51 = .ok (.iload_n 1, 1) := by decide +kernel
theorem dX7_better_52 : decode cX7_better 52 = .ok (.aaload, 1) := by decide +kernel
theorem dX7_better_53 : decode cX7_better 53 = .ok (.invokevirtual 218, 3) := by decide +kernel
theorem dX7_better_56 : decode cX7_better 56 = .ok (.aload_n 0, 1) := by decide +kernel
theorem dX7_better_57 : decode cX7_better 57 = .ok (.getfield 37, 3) := by decide +kernel
theorem dX7_better_60 : decode cX7_better 60 = .ok (.aload_n 0, 1) := by decide +kernel
theorem dX7_better_61 : decode cX7_better 61 = .ok (.getfield 23, 3) := by decide +kernel
theorem dX7_better_64 : decode cX7_better 64 = .ok (.invokevirtual 130, 3) := by decide +kernel
theorem dX7_better_67 : decode cX7_better 67 = .ok (.aload_n 0, 1) := by decide +kernel
theorem dX7_better_68 : decode cX7_better 68 = .ok (.iload_n 1, 1) := by decide +kernel
theorem dX7_better_69 : decode cX7_better 69 = .ok (.aload_n 0, 1) := by decide +kernel
theorem dX7_better_70 : decode cX7_better 70 = .ok (.getfield 51, 3) := by decide +kernel
theorem dX7_better_73 : decode cX7_better 73 = .ok (.aload_n 0, 1) := by decide +kernel
theorem dX7_better_74 : decode cX7_better 74 = .ok (.getfield 23, 3) := by decide +kernel
theorem dX7_better_77 : decode cX7_better 77 = .ok (.aload_n 0, 1) := by decide +kernel
theorem dX7_better_78 : decode cX7_better 78 = .ok (.getfield 37, 3) := by decide +kernel
theorem dX7_better_81 : decode cX7_better 81 = .ok (.iload_n 2, 1) := by decide +kernel
theorem dX7_better_82 : decode cX7_better 82 = .ok (.invokevirtual 236, 3) := by decide +kernel
theorem dX7_better_85 : decode cX7_better 85 = .ok (.invokevirtual 227, 3) := by decide +kernel
theorem dX7_better_88 : decode cX7_better 88 = .ok (.ireturn, 1) := by decide +kernel
theorem dX7_sum_0 : decode cX7_sum 0 = .ok (.iload_n 1, 1) := by decide +kernel
theorem dX7_sum_1 : decode cX7_sum 1 = .ok (.invokestatic 239, 3) := by decide +kernel
theorem dX7_sum_4 : decode cX7_sum 4 = .ok (.ifCond .eq 19, 3) := by decide +kernel
theorem dX7_sum_7 : decode cX7_sum 7 = .ok (.aload_n 0, 1) := by decide +kernel
theorem dX7_sum_8 : decode cX7_sum 8 = .ok (.iload_n 2, 1) := by decide +kernel
theorem dX7_sum_9 : decode cX7_sum 9 = .ok (.invokevirtual 103, 3) := by decide +kernel
theorem dX7_sum_12 : decode cX7_sum 12 = .ok (.ifCond .eq 11, 3) := by decide +kernel
theorem dX7_sum_15 : decode cX7_sum 15 = .ok (.aload_n 0, 1) := by decide +kernel
theorem dX7_sum_16 : decode cX7_sum 16 = .ok (.iload_n 3, 1) := by decide +kernel
theorem dX7_sum_17 : decode cX7_sum 17 = .ok (.invokevirtual 103, 3) := by decide +kernel
theorem dX7_sum_20 : decode cX7_sum 20 = .ok (.ifCond .ne 9, 3) := by decide +kernel
theorem dX7_sum_23 : decode cX7_sum 23 = .ok (.aload_n 0, 1) := by decide +kernel
theorem dX7_sum_24 : decode cX7_sum 24 = .ok (.iconst 1, 1) := by decide +kernel
theorem dX7_sum_25 : decode cX7_sum 25 = .ok (.invokevirtual 70, 3) := by decide +kernel
theorem dX7_sum_28 : decode cX7_sum 28 = .ok (.ireturn, 1) := by decide +kernel
theorem dX7_sum_29 : decode cX7_sum 29 = .ok (.aload_n 0, 1) := by decide +kernel
theorem dX7_sum_30 : decode cX7_sum 30 = .ok (.getfield 23, 3) := by decide +kernel
theorem dX7_sum_33 : decode cX7_sum 33 = .ok (.invokevirtual 87, 3) := by decide +kernel
theorem dX7_sum_36 : decode cX7_sum 36 = .ok (.aload_n 0, 1) := by decide +kernel
theorem dX7_sum_37 : decode cX7_sum 37 = .ok (.getfield 23, 3) := by decide +kernel
theorem dX7_sum_40 : decode cX7_sum 40 = .ok (.aload_n 0, 1) := by decide +kernel
theorem dX7_sum_41 : decode cX7_sum 41 = .ok (.getfield 18, 3) := by decide +kernel
theorem dX7_sum_44 : decode cX7_sum 44 = .ok (.iload_n 2, 1) := by decide +kernel
theorem dX7_sum_45 : decode cX7_sum 45 = .ok (.aaload, 1) := by decide +kernel
theorem dX7_sum_46 : decode cX7_sum 46 = .ok (.iconst 0, 1) := by decide +kernel
theorem dX7_sum_47 : decode cX7_sum 47 = .ok (.invokevirtual 242, 3) := by decide +kernel
theorem dX7_sum_50 : decode cX7_sum 50 = .ok (.ifCond .eq 20, 3) := by decide +kernel
theorem dX7_sum_53 : decode cX7_sum 53 = .ok (.aload_n 0, 1) := by decide +kernel
theorem dX7_sum_54 : decode cX7_sum 54 = .ok (.getfield 23, 3) := by decide +kernel
theorem dX7_sum_57 : decode cX7_sum 57 = .ok (.aload_n 0, 1) := by decide +kernel
theorem dX7_sum_58 : decode cX7_sum 58 = .ok (.getfield 18, 3) := by decide +kernel
theorem dX7_sum_61 : decode cX7_sum 61 = .ok (.iload_n 3, 1) := by decide +kernel
theorem dX7_sum_62 : decode cX7_sum 62 = .ok (.aaload, 1) := by decide +kernel
theorem dX7_sum_63 : decode cX7_sum 63 = .ok (.iconst 0, 1) := by decide +kernel
theorem dX7_sum_64 : decode cX7_sum 64 = .ok (.invokevirtual 242, 3) := by decide +kernel
theorem dX7_sum_67 : decode cX7_sum 67 = .ok (.ifCond .ne 9, 3) := by decide +kernel
theorem dX7_sum_70 : decode cX7_sum 70 = .ok (.aload_n 0, 1) := by decide +kernel
theorem dX7_sum_71 : decode cX7_sum 71 = .ok (.iconst 3, 1) := by decide +kernel
theorem dX7_sum_72 : decode cX7_sum 72 = .ok (.invokevirtual 70, 3) := by decide +kernel
theorem dX7_sum_75 : decode cX7_sum 75 = .ok (.ireturn, 1) := by decide +kernel
theorem dX7_sum_76 : decode cX7_sum 76 = .ok (.aload_n 0, 1) := by decide +kernel
theorem dX7_sum_77 : decode cX7_sum 77 = .ok (.getfield 23, 3) := by decide +kernel
theorem dX7_sum_80 : decode cX7_sum 80 = .ok (.aload_n 0, 1) := by decide +kernel
theorem dX7_sum_81 : decode cX7_sum 81 = .ok (.getfield 18, 3) := by decide +kernel
theorem dX7_sum_84 : decode cX7_sum 84 = .ok (.iload_n 2, 1) := by decide +kernel
theorem dX7_sum_85 : decode cX7_sum 85 = .ok (.aaload, 1) := by decide +kernel
theorem dX7_sum_86 : decode cX7_sum 86 = .ok (.aload_n 0, 1) := by decide +kernel
theorem dX7_sum_87 : decode cX7_sum 87 = .ok (.getfield 18, 3) := by decide +kernel
theorem dX7_sum_90 : decode cX7_sum 90 = .ok (.iload_n 3, 1) := by decide +kernel
theorem dX7_sum_91 : decode cX7_sum 91 = .ok (.aaload, 1) := by decide +kernel
theorem dX7_sum_92 : decode cX7_sum 92 = .ok (.invokevirtual 246, 3) := by decide +kernel
theorem dX7_sum_95 : decode cX7_sum 95 = .ok (.aload_n 0, 1) := by decide +kernel
theorem dX7_sum_96 : decode cX7_sum 96 = .ok (.iload_n 1, 1) := by decide +kernel
theorem dX7_sum_97 : decode cX7_sum 97 = .ok (.aload_n 0, 1) := by decide +kernel
theorem dX7_sum_98 : decode cX7_sum 98 = .ok (.getfield 23, 3) := by decide +kernel
theorem dX7_sum_101 : decode cX7_sum 101 = .ok (.getfield 185, 3) := by decide +kernel
theorem dX7_sum_104 : decode cX7_sum 104 = .ok (.invokevirtual 227, 3) := by decide +kernel
theorem dX7_sum_107 : decode cX7_sum 107 = .ok (.ireturn, 1) := by decide +kernel
theorem dX7_join_0 : decode cX7_join 0 = .ok (.iload_n 1, 1) := by decide +kernel
theorem dX7_join_1 : decode cX7_join 1 = .ok (.invokestatic 239, 3) := by decide +kernel
theorem dX7_join_4 : decode cX7_join 4 = .ok (.ifCond .eq 19, 3) := by decide +kernel
theorem dX7_join_7 : decode cX7_join 7 = .ok (.aload_n 0, 1) := by decide +kernel
theorem dX7_join_8 : decode cX7_join 8 = .ok (.iload_n 2, 1) := by decide +kernel
theorem dX7_join_9 : decode cX7_join 9 = .ok (.invokevirtual 103, 3) := by decide +kernel
theorem dX7_join_12 : decode cX7_join 12 = .ok (.ifCond .eq 11, 3) := by decide +kernel
theorem dX7_join_15 : decode cX7_join 15 = .ok (.aload_n 0, 1) := by decide +kernel
theorem dX7_join_16 : decode cX7_join 16 = .ok (.iload_n 3, 1) := by decide +kernel
theorem dX7_join_17 : decode cX7_join 17 = .ok (.invokevirtual 103, 3) := by decide +kernel
theorem dX7_join_20 : decode cX7_join 20 = .ok (.ifCond .ne 9, 3) := by decide +kernel
theorem dX7_join_23 : decode cX7_join 23 = .ok (.aload_n 0, 1) := by decide +kernel
theorem dX7_join_24 : decode cX7_join 24 = .ok (.iconst 1, 1) := by decide +kernel
theorem dX7_join_25 : decode cX7_join 25 = .ok (.invokevirtual 70, 3) := by decide +kernel
theorem dX7_join_28 : decode cX7_join 28 = .ok (.ireturn, 1) := by decide +kernel
theorem dX7_join_29 : decode cX7_join 29 = .ok (.aload_n 0, 1) := by decide +kernel
theorem dX7_join_30 : decode cX7_join 30 = .ok (.getfield 18, 3) := by decide +kernel
theorem dX7_join_33 : decode cX7_join 33 = .ok (.iload_n 2, 1) := by decide +kernel
theorem dX7_join_34 : decode cX7_join 34 = .ok (.aaload, 1) := by decide +kernel
theorem dX7_join_35 : decode cX7_join 35 = .ok (.aload_n 0, 1) := by decide +kernel
theorem dX7_join_36 : decode cX7_join 36 = .ok (.getfield 18, 3) := by decide +kernel
theorem dX7_join_39 : decode cX7_join 39 = .ok (.iload_n 3, 1) := by decide +kernel
theorem dX7_join_40 : decode cX7_join 40 = .ok (.aaload, 1) := by decide +kernel
theorem dX7_join_41 : decode cX7_join 41 = .ok (.invokevirtual 250, 3) := by decide +kernel
theorem dX7_join_44 : decode cX7_join 44 = .ok (.ifCond .ne 9, 3) := by decide +kernel
theorem dX7_join_47 : decode cX7_join 47 = .ok (.aload_n 0, 1) := by decide +kernel
theorem dX7_join_48 : decode cX7_join 48 = .ok (.iconst 5, 1) := by decide +kernel
theorem dX7_join_49 : decode cX7_join 49 = .ok (.invokevirtual 70, 3) := by decide +kernel
theorem dX7_join_52 : decode cX7_join 52 = .ok (.ireturn, 1) := by decide +kernel
theorem dX7_join_53 : decode cX7_join 53 = .ok (.aload_n 0, 1) := by decide +kernel
theorem dX7_join_54 : decode cX7_join 54 = .ok (.getfield 23, 3) := by decide +kernel
theorem dX7_join_57 : decode cX7_join 57 = .ok (.invokevirtual 87, 3) := by decide +kernel
theorem dX7_join_60 : decode cX7_join 60 = .ok (.aload_n 0, 1) := by decide +kernel
theorem dX7_join_61 : decode cX7_join 61 = .ok (.getfield 23, 3) := by decide +kernel
theorem dX7_join_64 : decode cX7_join 64 = .ok (.aload_n 0, 1) := by decide +kernel
theorem dX7_join_65 : decode cX7_join 65 = .ok (.getfield 18, 3) := by decide +kernel
theorem dX7_join_68 : decode cX7_join 68 = .ok (.iload_n 2, 1) := by decide +kernel
theorem dX7_join_69 : decode cX7_join 69 = .ok (.aaload, 1) := by decide +kernel
theorem dX7_join_70 : decode cX7_join 70 = .ok (.iconst 0, 1) := by decide +kernel
theorem dX7_join_71 : decode cX7_join 71 = .ok (.invokevirtual 242, 3) := by decide +kernel
theorem dX7_join_74 : decode cX7_join 74 = .ok (.ifCond .eq 20, 3) := by decide +kernel
theorem dX7_join_77 : decode cX7_join 77 = .ok (.aload_n 0, 1) := by decide +kernel
theorem dX7_join_78 : decode cX7_join 78 = .ok (.getfield 23, 3) := by decide +kernel
theorem dX7_join_81 : decode cX7_join 81 = .ok (.aload_n 0, 1) := by decide +kernel
theorem dX7_join_82 : decode cX7_join 82 = .ok (.getfield 18, 3) := by decide +kernel
theorem dX7_join_85 : decode cX7_join 85 = .ok (.iload_n 3, 1) := by decide +kernel
theorem dX7_join_86 : decode cX7_join 86 = .ok (.aaload, 1) := by decide +kernel
theorem dX7_join_87 : decode cX7_join 87 = .ok (.iconst 1, 1) := by decide +kernel
theorem dX7_join_88 : decode cX7_join 88 = .ok (.invokevirtual 242, 3) := by decide +kernel
theorem dX7_join_91 : decode cX7_join 91 = .ok (.ifCond .ne 9, 3) := by decide +kernel
theorem dX7_join_94 : decode cX7_join 94 = .ok (.aload_n 0, 1) := by decide +kernel
theorem dX7_join_95 : decode cX7_join 95 = .ok (.iconst 3, 1) := by decide +kernel
theorem dX7_join_96 : decode cX7_join 96 = .ok (.invokevirtual 70, 3) := by decide +kernel
theorem dX7_join_99 : decode cX7_join 99 = .ok (.ireturn, 1) := by decide +kernel
theorem dX7_join_100 : decode cX7_join 100 = .ok (.aload_n 0, 1) := by decide +kernel
theorem dX7_join_101 : decode cX7_join 101 = .ok (.getfield 23, 3) := by decide +kernel
theorem dX7_join_104 : decode cX7_join 104 = .ok (.aload_n 0, 1) := by decide +kernel
theorem dX7_join_105 : decode cX7_join 105 = .ok (.getfield 18, 3) := by decide +kernel
theorem dX7_join_108 : decode cX7_join 108 = .ok (.iload_n 2, 1) := by decide +kernel
theorem dX7_join_109 : decode cX7_join 109 = .ok (.aaload, 1) := by decide +kernel
theorem dX7_join_110 : decode cX7_join 110 = .ok (.aload_n 0, 1) := by decide +kernel
theorem dX7_join_111 : decode cX7_join 111 = .ok (.getfield 18, 3) := by decide +kernel
theorem dX7_join_114 : decode cX7_join 114 = .ok (.iload_n 3, 1) := by decide +kernel
theorem dX7_join_115 : decode cX7_join 115 = .ok (.aaload, 1) := by decide +kernel
theorem dX7_join_116 : decode cX7_join 116 = .ok (.invokevirtual 254, 3) := by decide +kernel
theorem dX7_join_119 : decode cX7_join 119 = .ok (.aload_n 0, 1) := by decide +kernel
theorem dX7_join_120 : decode cX7_join 120 = .ok (.iload_n 1, 1) := by decide +kernel
theorem dX7_join_121 : decode cX7_join 121 = .ok (.aload_n 0, 1) := by decide +kernel
theorem dX7_join_122 : decode cX7_join 122 = .ok (.getfield 23, 3) := by decide +kernel
theorem dX7_join_125 : decode cX7_join 125 = .ok (.getfield 185, 3) := by decide +kernel
theorem dX7_join_128 : decode cX7_join 128 = .ok (.invokevirtual 227, 3) := by decide +kernel
theorem dX7_join_131 : decode cX7_join 131 = .ok (.ireturn, 1) := by decide +kernel
theorem dX7_longer_0 : decode cX7_longer 0 = .ok (.iload_n 1, 1) := by decide +kernel
theorem dX7_longer_1 : decode cX7_longer 1 = .ok (.invokestatic 239, 3) := by decide +kernel
theorem dX7_longer_4 : decode cX7_longer 4 = .ok (.ifCond .eq 15, 3) := by decide +kernel
theorem dX7_longer_7 : decode cX7_longer 7 = .ok (.aload_n 0, 1) := by decide +kernel
theorem dX7_longer_8 : decode cX7_longer 8 = .ok (.iload_n 2, 1) := by decide +kernel
theorem dX7_longer_9 : decode cX7_longer 9 = .ok (.invokevirtual 103, 3) := by decide +kernel
theorem dX7_longer_12 : decode cX7_longer 12 = .ok (.ifCond .eq 7, 3) := by decide +kernel
theorem dX7_longer_15 : decode cX7_longer 15 = .ok (.iconst 1, 1) := by decide +kernel
theorem dX7_longer_16 : decode cX7_longer 16 = .ok (.goto 4, 3) := by decide +kernel
theorem dX7_longer_19 : decode cX7_longer 19 = .ok (.iconst 0, 1) := by decide +kernel
theorem dX7_longer_20 : decode cX7_longer 20 = .ok (.iload_n 3, 1) := by decide +kernel
theorem dX7_longer_21 : decode cX7_longer 21 = .ok (.invokestatic 257, 3) := by decide +kernel
theorem dX7_longer_24 : decode cX7_longer 24 = .ok (.ifCond .eq 15, 3) := by decide +kernel
theorem dX7_longer_27 : decode cX7_longer 27 = .ok (.iload 4, 2) := by decide +kernel
theorem dX7_longer_29 : decode cX7_longer 29 = .ok (.invokestatic 260, 3) := by decide +kernel
theorem dX7_longer_32 : decode cX7_longer 32 = .ok (.ifCond .eq 7, 3) := by decide +kernel
theorem dX7_longer_35 : decode cX7_longer 35 = .ok (.iconst 1, 1) := by decide +kernel
theorem dX7_longer_36 : decode cX7_longer 36 = .ok (.goto 4, 3) := by decide +kernel
theorem dX7_longer_39 : decode cX7_longer 39 = .ok (.iconst 0, 1) := by decide +kernel
theorem dX7_longer_40 : decode cX7_longer 40 = .ok (.invokestatic 144, 3) := by decide +kernel
theorem dX7_longer_43 : decode cX7_longer 43 = .ok (.istore 5, 2) := by decide +kernel
theorem dX7_longer_45 : decode cX7_longer 45 = .ok (.iload 5, 2) := by decide +kernel
theorem dX7_longer_47 : decode cX7_longer 47 = .ok (.ifCond .eq 10, 3) := by decide +kernel
theorem dX7_longer_50 : decode cX7_longer 50 = .ok (.aload_n 0, 1) := by decide +kernel
theorem dX7_longer_51 : decode cX7_longer 51 = .ok (.iload 5, 2) := by decide +kernel
theorem dX7_longer_53 : decode cX7_longer 53 = .ok (.invokevirtual 70, 3) := by decide +kernel
theorem dX7_longer_56 : decode cX7_longer 56 = .ok (.ireturn, 1) := by decide +kernel
theorem dX7_longer_57 : decode cX7_longer 57 = .ok (.aload_n 0, 1) := by decide +kernel
theorem dX7_longer_58 : decode cX7_longer 58 = .ok (.getfield 23, 3) := by decide +kernel
theorem dX7_longer_61 : decode cX7_longer 61 = .ok (.invokevirtual 87, 3) := by decide +kernel
theorem dX7_longer_64 : decode cX7_longer 64 = .ok (.aload_n 0, 1) := by decide +kernel
theorem dX7_longer_65 : decode cX7_longer 65 = .ok (.getfield 23, 3) := by decide +kernel
theorem dX7_longer_68 : decode cX7_longer 68 = .ok (.aload_n 0, 1) := by decide +kernel
theorem dX7_longer_69 : decode cX7_longer 69 = .ok (.getfield 18, 3) := by decide +kernel
theorem dX7_longer_72 : decode cX7_longer 72 = .ok (.iload_n 2, 1) := by decide +kernel
theorem dX7_longer_73 : decode cX7_longer 73 = .ok (.aaload, 1) := by decide +kernel
theorem dX7_longer_74 : decode cX7_longer 74 = .ok (.iconst 0, 1) := by decide +kernel
theorem dX7_longer_75 : decode cX7_longer 75 = .ok (.invokevirtual 242, 3) := by decide +kernel
theorem dX7_longer_78 : decode cX7_longer 78 = .ok (.ifCond .eq 16, 3) := by decide +kernel
theorem dX7_longer_81 : decode cX7_longer 81 = .ok (.aload_n 0, 1) := by decide +kernel
theorem dX7_longer_82 : decode cX7_longer 82 = .ok (.getfield 23, 3) := by decide +kernel
theorem dX7_longer_85 : decode cX7_longer 85 = .ok (.iload_n 3, 1) := by decide +kernel
theorem dX7_longer_86 : decode cX7_longer 86 = .ok (.iload 4, 2) := by decide +kernel
theorem dX7_longer_88 : decode cX7_longer 88 = .ok (.invokevirtual 263, 3) := by decide +kernel
theorem dX7_longer_91 : decode cX7_longer 91 = .ok (.ifCond .ne 9, 3) := by decide +kernel
theorem dX7_longer_94 : decode cX7_longer 94 = .ok (.aload_n 0, 1) := by decide +kernel
theorem dX7_longer_95 : decode cX7_longer 95 = .ok (.iconst 3, 1) := by decide +kernel
theorem dX7_longer_96 : decode cX7_longer 96 = .ok (.invokevirtual 70, 3) := by decide +kernel
theorem dX7_longer_99 : decode cX7_longer 99 = .ok (.ireturn, 1) := by decide +kernel
theorem dX7_longer_100 : decode cX7_longer 100 = .ok (.aload_n 0, 1) := by decide +kernel
theorem dX7_longer_101 : decode cX7_longer 101 = .ok (.getfield 23, 3) := by decide +kernel
theorem dX7_longer_104 : decode cX7_longer 104 = .ok (.aload_n 0, 1) := by decide +kernel
theorem dX7_longer_105 : decode cX7_longer 105 = .ok (.getfield 18, 3) := by decide +kernel
theorem dX7_longer_108 : decode cX7_longer 108 = .ok (.iload_n 2, 1) := by decide +kernel
theorem dX7_longer_109 : decode cX7_longer 109 = .ok (.aaload, 1) := by decide +kernel
theorem dX7_longer_110 : decode cX7_longer 110 = .ok (.iload_n 3, 1) := by decide +kernel
theorem dX7_longer_111 : decode cX7_longer 111 = .ok (.invokevirtual 266, 3) := by decide +kernel
theorem dX7_longer_114 : decode cX7_longer 114 = .ok (.aload_n 0, 1) := by decide +kernel
theorem dX7_longer_115 : decode cX7_longer 115 = .ok (.iload_n 1, 1) := by decide +kernel
theorem dX7_longer_116 : decode cX7_longer 116 = .ok (.aload_n 0, 1) := by decide +kernel
theorem dX7_longer_117 : decode cX7_longer 117 = .ok (.getfield 23, 3) := by decide +kernel
theorem dX7_longer_120 : decode cX7_longer 120 = .ok (.getfield 185, 3) := by decide +kernel
theorem dX7_longer_123 : decode cX7_longer 123 = .ok (.invokevirtual 227, 3) := by decide +kernel
theorem dX7_longer_126 : decode cX7_longer 126 = .ok (.ireturn, 1) := by decide +kernel
theorem dX7_shorter_0 : decode cX7_shorter 0 = .ok (.iload_n 1, 1) := by decide +kernel
theorem dX7_shorter_1 : decode cX7_shorter 1 = .ok (.invokestatic 239, 3) := by decide +kernel
theorem dX7_shorter_4 : decode cX7_shorter 4 = .ok (.ifCond .eq 12, 3) := by decide +kernel
theorem dX7_shorter_7 : decode cX7_shorter 7 = .ok (.aload_n 0, 1) := by decide +kernel
theorem dX7_shorter_8 : decode cX7_shorter 8 = .ok (.iload_n 2, 1) := by decide +kernel
theorem dX7_shorter_9 : decode cX7_shorter 9 = .ok (.iload_n 3, 1) := by decide +kernel
theorem dX7_shorter_10 : decode cX7_shorter 10 = .ok (.invokevirtual 110, 3) := by decide +kernel
theorem dX7_shorter_13 : decode cX7_shorter 13 = .ok (.ifCond .ne 9, 3) := by decide +kernel
theorem dX7_shorter_16 : decode cX7_shorter 16 = .ok (.aload_n 0, 1) := by decide +kernel
theorem dX7_shorter_17 : decode cX7_shorter 17 = .ok (.iconst 1, 1) := by decide +kernel
theorem dX7_shorter_18 : decode cX7_shorter 18 = .ok (.invokevirtual 70, 3) := by decide +kernel
theorem dX7_shorter_21 : decode cX7_shorter 21 = .ok (.ireturn, 1) := by decide +kernel
theorem dX7_shorter_22 : decode cX7_shorter 22 = .ok (.aload_n 0, 1) := by decide +kernel
theorem dX7_shorter_23 : decode cX7_shorter 23 = .ok (.iload_n 2, 1) := by decide +kernel
theorem dX7_shorter_24 : decode cX7_shorter 24 = .ok (.iload_n 3, 1) := by decide +kernel
theorem dX7_shorter_25 : decode cX7_shorter 25 = .ok (.iload 4, 2) := by decide +kernel
theorem dX7_shorter_27 : decode cX7_shorter 27 = .ok (.invokevirtual 201, 3) := by decide +kernel
theorem dX7_shorter_30 : decode cX7_shorter 30 = .ok (.ifCond .ne 9, 3) := by decide +kernel
theorem dX7_shorter_33 : decode cX7_shorter 33 = .ok (.aload_n 0, 1) := by decide +kernel
theorem dX7_shorter_34 : decode cX7_shorter 34 = .ok (.iconst 2, 1) := by decide +kernel
theorem dX7_shorter_35 : decode cX7_shorter 35 = .ok (.invokevirtual 70, 3) := by decide +kernel
theorem dX7_shorter_38 : decode cX7_shorter 38 = .ok (.ireturn, 1) := by decide +kernel
theorem dX7_shorter_39 : decode cX7_shorter 39 = .ok (.aload_n 0, 1) := by decide +kernel
theorem dX7_shorter_40 : decode cX7_shorter 40 = .ok (.getfield 18, 3) := by decide +kernel
theorem dX7_shorter_43 : decode cX7_shorter 43 = .ok (.iload_n 2, 1) := by decide +kernel
theorem dX7_shorter_44 : decode cX7_shorter 44 = .ok (.aaload, 1) := by decide +kernel
theorem dX7_shorter_45 : decode cX7_shorter 45 = .ok (.getfield 269, 3) := by decide +kernel
theorem dX7_shorter_48 : decode cX7_shorter 48 = .ok (.iconst 1, 1) := by decide +kernel
theorem dX7_shorter_49 : decode cX7_shorter 49 = .ok (.if_icmp .ne 9, 3) := by decide +kernel
theorem dX7_shorter_52 : decode cX7_shorter 52 = .ok (.aload_n 0, 1) := by decide +kernel
theorem dX7_shorter_53 : decode cX7_shorter 53 = .ok (.iconst 5, 1) := by decide +kernel
theorem dX7_shorter_54 : decode cX7_shorter 54 = .ok (.invokevirtual 70, 3) := by decide +kernel
theorem dX7_shorter_57 : decode cX7_shorter 57 = .ok (.ireturn, 1) := by decide +kernel
theorem dX7_shorter_58 : decode cX7_shorter 58 = .ok (.aload_n 0, 1) := by decide +kernel
theorem dX7_shorter_59 : decode cX7_shorter 59 = .ok (.getfield 23, 3) := by decide +kernel
theorem dX7_shorter_62 : decode cX7_shorter 62 = .ok (.invokevirtual 87, 3) := by decide +kernel
theorem dX7_shorter_65 : decode cX7_shorter 65 = .ok (.aload_n 0, 1) := by decide +kernel
theorem dX7_shorter_66 : decode cX7_shorter 66 = .ok (.getfield 23, 3) := by decide +kernel
theorem dX7_shorter_69 : decode cX7_shorter 69 = .ok (.aload_n 0, 1) := by decide +kernel
theorem dX7_shorter_70 : decode cX7_shorter 70 = .ok (.getfield 18, 3) := by decide +kernel
theorem dX7_shorter_73 : decode cX7_shorter 73 = .ok (.iload_n 2, 1) := by decide +kernel
theorem dX7_shorter_74 : decode cX7_shorter 74 = .ok (.aaload, 1) := by decide +kernel
theorem dX7_shorter_75 : decode cX7_shorter 75 = .ok (.iload_n 3, 1) := by decide +kernel
theorem dX7_shorter_76 : decode cX7_shorter 76 = .ok (.invokevirtual 272, 3) := by decide +kernel
theorem dX7_shorter_79 : decode cX7_shorter 79 = .ok (.aload_n 0, 1) := by decide +kernel
theorem dX7_shorter_80 : decode cX7_shorter 80 = .ok (.getfield 23, 3) := by decide +kernel
theorem dX7_shorter_83 : decode cX7_shorter 83 = .ok (.aload_n 0, 1) := by decide +kernel
theorem dX7_shorter_84 : decode cX7_shorter 84 = .ok (.getfield 18, 3) := by decide +kernel
theorem dX7_shorter_87 : decode cX7_shorter 87 = .ok (.iload_n 2, 1) := by decide +kernel
theorem dX7_shorter_88 : decode cX7_shorter 88 = .ok (.aaload, 1) := by decide +kernel
theorem dX7_shorter_89 : decode cX7_shorter 89 = .ok (.iload_n 3, 1) := by decide +kernel
theorem dX7_shorter_90 : decode cX7_shorter 90 = .ok (.iload 4, 2) := by decide +kernel
theorem dX7_shorter_92 : decode cX7_shorter 92 = .ok (.invokevirtual 275, 3) := by decide +kernel
theorem dX7_shorter_95 : decode cX7_shorter 95 = .ok (.aload_n 0, 1) := by decide +kernel
theorem dX7_shorter_96 : decode cX7_shorter 96 = .ok (.iload_n 1, 1) := by decide +kernel
theorem dX7_shorter_97 : decode cX7_shorter 97 = .ok (.aload_n 0, 1) := by decide +kernel
theorem dX7_shorter_98 : decode cX7_shorter 98 = .ok (.getfield 23, 3) := by decide +kernel
theorem dX7_shorter_101 : decode cX7_shorter 101 = .ok (.getfield 185, 3) := by decide +kernel
theorem dX7_shorter_104 : decode cX7_shorter 104 = .ok (.invokevirtual 227, 3) := by decide +kernel
theorem dX7_shorter_107 : decode cX7_shorter 107 = .ok (.ireturn, 1) := by decide +kernel
theorem dX7_swap_0 : decode cX7_swap 0 = .ok (.iload_n 1, 1) := by decide +kernel
theorem dX7_swap_1 : decode cX7_swap 1 = .ok (.invokestatic 239, 3) := by decide +kernel
theorem dX7_swap_4 : decode cX7_swap 4 = .ok (.ifCond .eq 22, 3) := by decide +kernel
theorem dX7_swap_7 : decode cX7_swap 7 = .ok (.aload_n 0, 1) := by decide +kernel
theorem dX7_swap_8 : decode cX7_swap 8 = .ok (.iload_n 2, 1) := by decide +kernel
theorem dX7_swap_9 : decode cX7_swap 9 = .ok (.iload_n 3, 1) := by decide +kernel
theorem dX7_swap_10 : decode cX7_swap 10 = .ok (.invokevirtual 110, 3) := by decide +kernel
theorem dX7_swap_13 : decode cX7_swap 13 = .ok (.ifCond .eq 13, 3) := by decide +kernel
theorem dX7_swap_16 : decode cX7_swap 16 = .ok (.aload_n 0, 1) := by decide +kernel
theorem dX7_swap_17 : decode cX7_swap 17 = .ok (.iload_n 2, 1) := by decide +kernel
theorem dX7_swap_18 : decode cX7_swap 18 = .ok (.iload 4, 2) := by decide +kernel
theorem dX7_swap_20 : decode cX7_swap 20 = .ok (.invokevirtual 110, 3) := by decide +kernel
theorem dX7_swap_23 : decode cX7_swap 23 = .ok (.ifCond .ne 11, 3) := by decide +kernel
theorem dX7_swap_26 : decode cX7_swap 26 = .ok (.aload_n 0, 1) := by decide +kernel
theorem dX7_swap_27 : decode cX7_swap 27 = .ok (.iconst 1, 1) := by decide +kernel
theorem dX7_swap_28 : decode cX7_swap 28 = .ok (.invokevirtual 70, 3) := by decide +kernel
theorem dX7_swap_31 : decode cX7_swap 31 = .ok (.pop, 1) := by decide +kernel
theorem dX7_swap_32 : decode cX7_swap 32 = .ok (.iconst 0, 1) := by decide +kernel
theorem dX7_swap_33 : decode cX7_swap 33 = .ok (.ireturn, 1) := by decide +kernel
theorem dX7_swap_34 : decode cX7_swap 34 = .ok (.aload_n 0, 1) := by decide +kernel
theorem dX7_swap_35 : decode cX7_swap 35 = .ok (.getfield 37, 3) := by decide +kernel
theorem dX7_swap_38 : decode cX7_swap 38 = .ok (.aload_n 0, 1) := by decide +kernel
theorem dX7_swap_39 : decode cX7_swap 39 = .ok (.getfield 18, 3) := by decide +kernel
theorem dX7_swap_42 : decode cX7_swap 42 = .ok (.iload_n 2, 1) := by decide +kernel
theorem dX7_swap_43 : decode cX7_swap 43 = .ok (.aaload, 1) := by decide +kernel
theorem dX7_swap_44 : decode cX7_swap 44 = .ok (.invokevirtual 130, 3) := by decide +kernel
theorem dX7_swap_47 : decode cX7_swap 47 = .ok (.aload_n 0, 1) := by decide +kernel
theorem dX7_swap_48 : decode cX7_swap 48 = .ok (.getfield 23, 3) := by decide +kernel
theorem dX7_swap_51 : decode cX7_swap 51 = .ok (.invokevirtual 87, 3) := by decide +kernel
theorem dX7_swap_54 : decode cX7_swap 54 = .ok (.aload_n 0, 1) := by decide +kernel
theorem dX7_swap_55 : decode cX7_swap 55 = .ok (.getfield 23, 3) := by decide +kernel
theorem dX7_swap_58 : decode cX7_swap 58 = .ok (.aload_n 0, 1) := by decide +kernel
theorem dX7_swap_59 : decode cX7_swap 59 = .ok (.getfield 18, 3) := by decide +kernel
theorem dX7_swap_62 : decode cX7_swap 62 = .ok (.iload_n 2, 1) := by decide +kernel
theorem dX7_swap_63 : decode cX7_swap 63 = .ok (.aaload, 1) := by decide +kernel
theorem dX7_swap_64 : decode cX7_swap 64 = .ok (.iload_n 3, 1) := by decide +kernel
theorem dX7_swap_65 : decode cX7_swap 65 = .ok (.iload 4, 2) := by decide +kernel
theorem dX7_swap_67 : decode cX7_swap 67 = .ok (.invokevirtual 279, 3) := by decide +kernel
theorem dX7_swap_70 : decode cX7_swap 70 = .ok (.aload_n 0, 1) := by decide +kernel
theorem dX7_swap_71 : decode cX7_swap 71 = .ok (.getfield 23, 3) := by decide +kernel
theorem dX7_swap_74 : decode cX7_swap 74 = .ok (.aload_n 0, 1) := by decide +kernel
theorem dX7_swap_75 : decode cX7_swap 75 = .ok (.getfield 18, 3) := by decide +kernel
theorem dX7_swap_78 : decode cX7_swap 78 = .ok (.iload_n 2, 1) := by decide +kernel
theorem dX7_swap_79 : decode cX7_swap 79 = .ok (.aaload, 1) := by decide +kernel
theorem dX7_swap_80 : decode cX7_swap 80 = .ok (.aload_n 0, 1) := by decide +kernel
theorem dX7_swap_81 : decode cX7_swap 81 = .ok (.getfield 37, 3) := by decide +kernel
theorem dX7_swap_84 : decode cX7_swap 84 = .ok (.iload_n 3, 1) := by decide +kernel
theorem dX7_swap_85 : decode cX7_swap 85 = .ok (.iload 4, 2) := by decide +kernel
theorem dX7_swap_87 : decode cX7_swap 87 = .ok (.invokevirtual 282, 3) := by decide +kernel
theorem dX7_swap_90 : decode cX7_swap 90 = .ok (.aload_n 0, 1) := by decide +kernel
theorem dX7_swap_91 : decode cX7_swap 91 = .ok (.iload_n 1, 1) := by decide +kernel
theorem dX7_swap_92 : decode cX7_swap 92 = .ok (.aload_n 0, 1) := by decide +kernel
theorem dX7_swap_93 : decode cX7_swap 93 = .ok (.getfield 23, 3) := by decide +kernel
theorem dX7_swap_96 : decode cX7_swap 96 = .ok (.getfield 185, 3) := by decide +kernel
theorem dX7_swap_99 : decode cX7_swap 99 = .ok (.invokevirtual 227, 3) := by decide +kernel
theorem dX7_swap_102 : decode cX7_swap 102 = .ok (.pop, 1) := by decide +kernel
theorem dX7_swap_103 : decode cX7_swap 103 = .ok (.iconst 1, 1) := by decide +kernel
theorem dX7_swap_104 : decode cX7_swap 104 = .ok (.ireturn, 1) := by decide +kernel
theorem dX7_shift_0 : decode cX7_shift 0 = .ok (.iload_n 1, 1) := by decide +kernel
theorem dX7_shift_1 : decode cX7_shift 1 = .ok (.invokestatic 239, 3) := by decide +kernel
theorem dX7_shift_4 : decode cX7_shift 4 = .ok (.ifCond .eq 16, 3) := by decide +kernel
theorem dX7_shift_7 : decode cX7_shift 7 = .ok (.aload_n 0, 1) := by decide +kernel
theorem dX7_shift_8 : decode cX7_shift 8 = .ok (.iload_n 2, 1) := by decide +kernel
theorem dX7_shift_9 : decode cX7_shift 9 = .ok (.iload_n 3, 1) := by decide +kernel
theorem dX7_shift_10 : decode cX7_shift 10 = .ok (.invokevirtual 110, 3) := by decide +kernel
theorem dX7_shift_13 : decode cX7_shift 13 = .ok (.ifCond .eq 7, 3) := by decide +kernel
theorem dX7_shift_16 : decode cX7_shift 16 = .ok (.iconst 1, 1) := by decide +kernel
theorem dX7_shift_17 : decode cX7_shift 17 = .ok (.goto 4, 3) := by decide +kernel
theorem dX7_shift_20 : decode cX7_shift 20 = .ok (.iconst 0, 1) := by decide +kernel
theorem dX7_shift_21 : decode cX7_shift 21 = .ok (.iload 4, 2) := by decide +kernel
theorem dX7_shift_23 : decode cX7_shift 23 = .ok (.ifCond .lt 13, 3) := by decide +kernel
theorem dX7_shift_26 : decode cX7_shift 26 = .ok (.iload 4, 2) := by decide +kernel
theorem dX7_shift_28 : decode cX7_shift 28 = .ok (.iconst 3, 1) := by decide +kernel
theorem dX7_shift_29 : decode cX7_shift 29 = .ok (.if_icmp .gt 7, 3) := by decide +kernel
theorem dX7_shift_32 : decode cX7_shift 32 = .ok (.iconst 1, 1) := by decide +kernel
theorem dX7_shift_33 : decode cX7_shift 33 = .ok (.goto 4, 3) := by decide +kernel
theorem dX7_shift_36 : decode cX7_shift 36 = .ok (.iconst 0, 1) := by decide +kernel
theorem dX7_shift_37 : decode cX7_shift 37 = .ok (.invokestatic 144, 3) := by decide +kernel
theorem dX7_shift_40 : decode cX7_shift 40 = .ok (.istore 5, 2) := by decide +kernel
theorem dX7_shift_42 : decode cX7_shift 42 = .ok (.iload 5, 2) := by decide +kernel
theorem dX7_shift_44 : decode cX7_shift 44 = .ok (.ifCond .eq 12, 3) := by decide +kernel
theorem dX7_shift_47 : decode cX7_shift 47 = .ok (.aload_n 0, 1) := by decide +kernel
theorem dX7_shift_48 : decode cX7_shift 48 = .ok (.iload 5, 2) := by decide +kernel
theorem dX7_shift_50 : decode cX7_shift 50 = .ok (.invokevirtual 70, 3) := by decide +kernel
theorem dX7_shift_53 : decode cX7_shift 53 = .ok (.pop, 1) := by decide +kernel
theorem dX7_shift_54 : decode cX7_shift 54 = .ok (.iconst 0, 1) := by decide +kernel
theorem dX7_shift_55 : decode cX7_shift 55 = .ok (.ireturn, 1) := by decide +kernel
theorem dX7_shift_56 : decode cX7_shift 56 = .ok (.aload_n 0, 1) := by decide +kernel
theorem dX7_shift_57 : decode cX7_shift 57 = .ok (.getfield 23, 3) := by decide +kernel
theorem dX7_shift_60 : decode cX7_shift 60 = .ok (.aload_n 0, 1) := by decide +kernel
theorem dX7_shift_61 : decode cX7_shift 61 = .ok (.getfield 18, 3) := by decide +kernel
theorem dX7_shift_64 : decode cX7_shift 64 = .ok (.iload_n 2, 1) := by decide +kernel
theorem dX7_shift_65 : decode cX7_shift 65 = .ok (.aaload, 1) := by decide +kernel
theorem dX7_shift_66 : decode cX7_shift 66 = .ok (.invokevirtual 286, 3) := by decide +kernel
theorem dX7_shift_69 : decode cX7_shift 69 = .ok (.aload_n 0, 1) := by decide +kernel
theorem dX7_shift_70 : decode cX7_shift 70 = .ok (.getfield 23, 3) := by decide +kernel
theorem dX7_shift_73 : decode cX7_shift 73 = .ok (.aload_n 0, 1) := by decide +kernel
theorem dX7_shift_74 : decode cX7_shift 74 = .ok (.getfield 18, 3) := by decide +kernel
theorem dX7_shift_77 : decode cX7_shift 77 = .ok (.iload_n 2, 1) := by decide +kernel
theorem dX7_shift_78 : decode cX7_shift 78 = .ok (.aaload, 1) := by decide +kernel
theorem dX7_shift_79 : decode cX7_shift 79 = .ok (.iload_n 3, 1) := by decide +kernel
theorem dX7_shift_80 : decode cX7_shift 80 = .ok (.iload 4, 2) := by decide +kernel
theorem dX7_shift_82 : decode cX7_shift 82 = .ok (.invokevirtual 289, 3) := by decide +kernel
theorem dX7_shift_85 : decode cX7_shift 85 = .ok (.aload_n 0, 1) := by decide +kernel
theorem dX7_shift_86 : decode cX7_shift 86 = .ok (.iload_n 1, 1) := by decide +kernel
theorem dX7_shift_87 : decode cX7_shift 87 = .ok (.aload_n 0, 1) := by decide +kernel
theorem dX7_shift_88 : decode cX7_shift 88 = .ok (.getfield 23, 3) := by decide +kernel
theorem dX7_shift_91 : decode cX7_shift 91 = .ok (.getfield 185, 3) := by decide +kernel
theorem dX7_shift_94 : decode cX7_shift 94 = .ok (.invokevirtual 227, 3) := by decide +kernel
theorem dX7_shift_97 : decode cX7_shift 97 = .ok (.pop, 1) := by decide +kernel
theorem dX7_shift_98 : decode cX7_shift 98 = .ok (.iconst 1, 1) := by decide +kernel
theorem dX7_shift_99 : decode cX7_shift 99 = .ok (.ireturn, 1) := by decide +kernel
theorem dX7_mix_0 : decode cX7_mix 0 = .ok (.iload_n 1, 1) := by decide +kernel
theorem dX7_mix_1 : decode cX7_mix 1 = .ok (.invokestatic 239, 3) := by decide +kernel
theorem dX7_mix_4 : decode cX7_mix 4 = .ok (.ifCond .eq 30, 3) := by decide +kernel
theorem dX7_mix_7 : decode cX7_mix 7 = .ok (.aload_n 0, 1) := by decide +kernel
theorem dX7_mix_8 : decode cX7_mix 8 = .ok (.iload_n 2, 1) := by decide +kernel
theorem dX7_mix_9 : decode cX7_mix 9 = .ok (.invokevirtual 103, 3) := by decide +kernel
theorem dX7_mix_12 : decode cX7_mix 12 = .ok (.ifCond .eq 22, 3) := by decide +kernel
theorem dX7_mix_15 : decode cX7_mix 15 = .ok (.aload_n 0, 1) := by decide +kernel
theorem dX7_mix_16 : decode cX7_mix 16 = .ok (.iload_n 3, 1) := by decide +kernel
theorem dX7_mix_17 : decode cX7_mix 17 = .ok (.invokevirtual 103, 3) := by decide +kernel
theorem dX7_mix_20 : decode cX7_mix 20 = .ok (.ifCond .eq 14, 3) := by decide +kernel
theorem dX7_mix_23 : decode cX7_mix 23 = .ok (.iload 4, 2) := by decide +kernel
theorem dX7_mix_25 : decode cX7_mix 25 = .ok (.ifCond .lt 9, 3) := by decide +kernel
theorem dX7_mix_28 : decode cX7_mix 28 = .ok (.iload 4, 2) := by decide +kernel
theorem dX7_mix_30 : decode cX7_mix 30 = .ok (.iconst 2, 1) := by decide +kernel
theorem dX7_mix_31 : decode cX7_mix 31 = .ok (.if_icmp .le 9, 3) := by decide +kernel
theorem dX7_mix_34 : decode cX7_mix 34 = .ok (.aload_n 0, 1) := by decide +kernel
theorem dX7_mix_35 : decode cX7_mix 35 = .ok (.iconst 1, 1) := by decide +kernel
theorem dX7_mix_36 : decode cX7_mix 36 = .ok (.invokevirtual 70, 3) := by decide +kernel
theorem dX7_mix_39 : decode cX7_mix 39 = .ok (.ireturn, 1) := by decide +kernel
theorem dX7_mix_40 : decode cX7_mix 40 = .ok (.aload_n 0, 1) := by decide +kernel
theorem dX7_mix_41 : decode cX7_mix 41 = .ok (.getfield 18, 3) := by decide +kernel
theorem dX7_mix_44 : decode cX7_mix 44 = .ok (.iload_n 2, 1) := by decide +kernel
theorem dX7_mix_45 : decode cX7_mix 45 = .ok (.aaload, 1) := by decide +kernel
theorem dX7_mix_46 : decode cX7_mix 46 = .ok (.aload_n 0, 1) := by decide +kernel
theorem dX7_mix_47 : decode cX7_mix 47 = .ok (.getfield 18, 3) := by decide +kernel
theorem dX7_mix_50 : decode cX7_mix 50 = .ok (.iload_n 3, 1) := by decide +kernel
theorem dX7_mix_51 : decode cX7_mix 51 = .ok (.aaload, 1) := by decide +kernel
theorem dX7_mix_52 : decode cX7_mix 52 = .ok (.invokevirtual 292, 3) := by decide +kernel
theorem dX7_mix_55 : decode cX7_mix 55 = .ok (.ifCond .ne 9, 3) := by decide +kernel
theorem dX7_mix_58 : decode cX7_mix 58 = .ok (.aload_n 0, 1) := by decide +kernel
theorem dX7_mix_59 : decode cX7_mix 59 = .ok (.iconst 5, 1) := by decide +kernel
theorem dX7_mix_60 : decode cX7_mix 60 = .ok (.invokevirtual 70, 3) := by decide +kernel
theorem dX7_mix_63 : decode cX7_mix 63 = .ok (.ireturn, 1) := by decide +kernel
theorem dX7_mix_64 : decode cX7_mix 64 = .ok (.aload_n 0, 1) := by decide +kernel
theorem dX7_mix_65 : decode cX7_mix 65 = .ok (.getfield 23, 3) := by decide +kernel
theorem dX7_mix_68 : decode cX7_mix 68 = .ok (.aload_n 0, 1) := by decide +kernel
theorem dX7_mix_69 : decode cX7_mix 69 = .ok (.getfield 18, 3) := by decide +kernel
theorem dX7_mix_72 : decode cX7_mix 72 = .ok (.iload_n 2, 1) := by decide +kernel
theorem dX7_mix_73 : decode cX7_mix 73 = .ok (.aaload, 1) := by decide +kernel
theorem dX7_mix_74 : decode cX7_mix 74 = .ok (.invokevirtual 286, 3) := by decide +kernel
theorem dX7_mix_77 : decode cX7_mix 77 = .ok (.aload_n 0, 1) := by decide +kernel
theorem dX7_mix_78 : decode cX7_mix 78 = .ok (.getfield 23, 3) := by decide +kernel
theorem dX7_mix_81 : decode cX7_mix 81 = .ok (.aload_n 0, 1) := by decide +kernel
theorem dX7_mix_82 : decode cX7_mix 82 = .ok (.getfield 18, 3) := by decide +kernel
theorem dX7_mix_85 : decode cX7_mix 85 = .ok (.iload_n 2, 1) := by decide +kernel
theorem dX7_mix_86 : decode cX7_mix 86 = .ok (.aaload, 1) := by decide +kernel
theorem dX7_mix_87 : decode cX7_mix 87 = .ok (.aload_n 0, 1) := by decide +kernel
theorem dX7_mix_88 : decode cX7_mix 88 = .ok (.getfield 18, 3) := by decide +kernel
theorem dX7_mix_91 : decode cX7_mix 91 = .ok (.iload_n 3, 1) := by decide +kernel
theorem dX7_mix_92 : decode cX7_mix 92 = .ok (.aaload, 1) := by decide +kernel
theorem dX7_mix_93 : decode cX7_mix 93 = .ok (.iload 4, 2) := by decide +kernel
theorem dX7_mix_95 : decode cX7_mix 95 = .ok (.invokevirtual 295, 3) := by decide +kernel
theorem dX7_mix_98 : decode cX7_mix 98 = .ok (.aload_n 0, 1) := by decide +kernel
theorem dX7_mix_99 : decode cX7_mix 99 = .ok (.iload_n 1, 1) := by decide +kernel
theorem dX7_mix_100 : decode cX7_mix 100 = .ok (.aload_n 0, 1) := by decide +kernel
theorem dX7_mix_101 : decode cX7_mix 101 = .ok (.getfield 23, 3) := by decide +kernel
theorem dX7_mix_104 : decode cX7_mix 104 = .ok (.getfield 185, 3) := by decide +kernel
theorem dX7_mix_107 : decode cX7_mix 107 = .ok (.invokevirtual 227, 3) := by decide +kernel
theorem dX7_mix_110 : decode cX7_mix 110 = .ok (.ireturn, 1) := by decide +kernel
theorem dX7_holes_0 : decode cX7_holes 0 = .ok (.iload_n 1, 1) := by decide +kernel
theorem dX7_holes_1 : decode cX7_holes 1 = .ok (.invokestatic 239, 3) := by decide +kernel
theorem dX7_holes_4 : decode cX7_holes 4 = .ok (.ifCond .eq 15, 3) := by decide +kernel
theorem dX7_holes_7 : decode cX7_holes 7 = .ok (.aload_n 0, 1) := by decide +kernel
theorem dX7_holes_8 : decode cX7_holes 8 = .ok (.iload_n 2, 1) := by decide +kernel
theorem dX7_holes_9 : decode cX7_holes 9 = .ok (.invokevirtual 103, 3) := by decide +kernel
theorem dX7_holes_12 : decode cX7_holes 12 = .ok (.ifCond .eq 7, 3) := by decide +kernel
theorem dX7_holes_15 : decode cX7_holes 15 = .ok (.iconst 1, 1) := by decide +kernel
theorem dX7_holes_16 : decode cX7_holes 16 = .ok (.goto 4, 3) := by decide +kernel
theorem dX7_holes_19 : decode cX7_holes 19 = .ok (.iconst 0, 1) := by decide +kernel
theorem dX7_holes_20 : decode cX7_holes 20 = .ok (.iload_n 3, 1) := by decide +kernel
theorem dX7_holes_21 : decode cX7_holes 21 = .ok (.invokestatic 141, 3) := by decide +kernel
theorem dX7_holes_24 : decode cX7_holes 24 = .ok (.invokestatic 144, 3) := by decide +kernel
theorem dX7_holes_27 : decode cX7_holes 27 = .ok (.istore 4, 2) := by decide +kernel
theorem dX7_holes_29 : decode cX7_holes 29 = .ok (.iload 4, 2) := by decide +kernel
theorem dX7_holes_31 : decode cX7_holes 31 = .ok (.ifCond .eq 10, 3) := by decide +kernel
theorem dX7_holes_34 : decode cX7_holes 34 = .ok (.aload_n 0, 1) := by decide +kernel
theorem dX7_holes_35 : decode cX7_holes 35 = .ok (.iload 4, 2) := by decide +kernel
theorem dX7_holes_37 : decode cX7_holes 37 = .ok (.invokevirtual 70, 3) := by decide +kernel
theorem dX7_holes_40 : decode cX7_holes 40 = .ok (.ireturn, 1) := by decide +kernel
theorem dX7_holes_41 : decode cX7_holes 41 = .ok (.aload_n 0, 1) := by decide +kernel
theorem dX7_holes_42 : decode cX7_holes 42 = .ok (.aload_n 0, 1) := by decide +kernel
theorem dX7_holes_43 : decode cX7_holes 43 = .ok (.getfield 18, 3) := by decide +kernel
theorem dX7_holes_46 : decode cX7_holes 46 = .ok (.iload_n 2, 1) := by decide +kernel
theorem dX7_holes_47 : decode cX7_holes 47 = .ok (.aaload, 1) := by decide +kernel
theorem dX7_holes_48 : decode cX7_holes 48 = .ok (.iload_n 3, 1) := by decide +kernel
theorem dX7_holes_49 : decode cX7_holes 49 = .ok (.invokevirtual 155, 3) := by decide +kernel
theorem dX7_holes_52 : decode cX7_holes 52 = .ok (.aload_n 0, 1) := by decide +kernel
theorem dX7_holes_53 : decode cX7_holes 53 = .ok (.getfield 23, 3) := by decide +kernel
theorem dX7_holes_56 : decode cX7_holes 56 = .ok (.aload_n 0, 1) := by decide +kernel
theorem dX7_holes_57 : decode cX7_holes 57 = .ok (.getfield 18, 3) := by decide +kernel
theorem dX7_holes_60 : decode cX7_holes 60 = .ok (.iload_n 2, 1) := by decide +kernel
theorem dX7_holes_61 : decode cX7_holes 61 = .ok (.aaload, 1) := by decide +kernel
theorem dX7_holes_62 : decode cX7_holes 62 = .ok (.invokevirtual 286, 3) := by decide +kernel
theorem dX7_holes_65 : decode cX7_holes 65 = .ok (.iconst 0, 1) := by decide +kernel
theorem dX7_holes_66 : decode cX7_holes 66 = .ok (.istore 5, 2) := by decide +kernel
theorem dX7_holes_68 : decode cX7_holes 68 = .ok (.iload 5, 2) := by decide +kernel
theorem dX7_holes_70 : decode cX7_holes 70 = .ok (.aload_n 0, 1) := by decide +kernel
theorem dX7_holes_71 : decode cX7_holes 71 = .ok (.getfield 23, 3) := by decide +kernel
theorem dX7_holes_74 : decode cX7_holes 74 = .ok (.getfield 211, 3) := by decide +kernel
theorem dX7_holes_77 : decode cX7_holes 77 = .ok (.if_icmp .ge 31, 3) := by decide +kernel
theorem dX7_holes_80 : decode cX7_holes 80 = .ok (.aload_n 0, 1) := by decide +kernel
theorem dX7_holes_81 : decode cX7_holes 81 = .ok (.getfield 37, 3) := by decide +kernel
theorem dX7_holes_84 : decode cX7_holes 84 = .ok (.getfield 165, 3) := by decide +kernel
theorem dX7_holes_87 : decode cX7_holes 87 = .ok (.iload 5, 2) := by decide +kernel
theorem dX7_holes_89 : decode cX7_holes 89 = .ok (.iaload, 1) := by decide +kernel
theorem dX7_holes_90 : decode cX7_holes 90 = .ok (.ifCond .ne 12, 3) := by decide +kernel
theorem dX7_holes_93 : decode cX7_holes 93 = .ok (.aload_n 0, 1) := by decide +kernel
theorem dX7_holes_94 : decode cX7_holes 94 = .ok (.getfield 23, 3) := by decide +kernel
theorem dX7_holes_97 : decode cX7_holes 97 = .ok (.iload 5, 2) := by decide +kernel
theorem dX7_holes_99 : decode cX7_holes 99 = .ok (.invokevirtual 221, 3) := by decide +kernel
theorem dX7_holes_102 : decode cX7_holes 102 = .ok (.iinc 5 1, 3) := by decide +kernel
theorem dX7_holes_105 : decode cX7_holes 105 = .ok (.goto (-37), 3) := by decide +kernel
theorem dX7_holes_108 : decode cX7_holes 108 = .ok (.aload_n 0, 1) := by decide +kernel
theorem dX7_holes_109 : decode cX7_holes 109 = .ok (.iload_n 1, 1) := by decide +kernel
theorem dX7_holes_110 : decode cX7_holes 110 = .ok (.aload_n 0, 1) := by decide +kernel
theorem dX7_holes_111 : decode cX7_holes 111 = .ok (.getfield 23, 3) := by decide +kernel
theorem dX7_holes_114 : decode cX7_holes 114 = .ok (.getfield 185, 3) := by decide +kernel
theorem dX7_holes_117 : decode cX7_holes 117 = .ok (.invokevirtual 227, 3) := by decide +kernel
theorem dX7_holes_120 : decode cX7_holes 120 = .ok (.ireturn, 1) := by decide +kernel
theorem dX7_undo_0 : decode cX7_undo 0 = .ok (.aload_n 0, 1) := by decide +kernel
theorem dX7_undo_1 : decode cX7_undo 1 = .ok (.getfield 30, 3) := by decide +kernel
theorem dX7_undo_4 : decode cX7_undo 4 = .ok (.getfield 299, 3) := by decide +kernel
theorem dX7_undo_7 : decode cX7_undo 7 = .ok (.ifCond .ne 9, 3) := by decide +kernel
theorem dX7_undo_10 : decode cX7_undo 10 = .ok (.aload_n 0, 1) := by decide +kernel
theorem dX7_undo_11 : decode cX7_undo 11 = .ok (.iconst 5, 1) := by decide +kernel
theorem dX7_undo_12 : decode cX7_undo 12 = .ok (.invokevirtual 70, 3) := by decide +kernel
theorem dX7_undo_15 : decode cX7_undo 15 = .ok (.ireturn, 1) := by decide +kernel
theorem dX7_undo_16 : decode cX7_undo 16 = .ok (.aload_n 0, 1) := by decide +kernel
theorem dX7_undo_17 : decode cX7_undo 17 = .ok (.getfield 30, 3) := by decide +kernel
theorem dX7_undo_20 : decode cX7_undo 20 = .ok (.aload_n 0, 1) := by decide +kernel
theorem dX7_undo_21 : decode cX7_undo 21 = .ok (.getfield 18, 3) := by decide +kernel
theorem dX7_undo_24 : decode cX7_undo 24 = .ok (.invokevirtual 302, 3) := by decide +kernel
theorem dX7_undo_27 : decode cX7_undo 27 = .ok (.aload_n 0, 1) := by decide +kernel
theorem dX7_undo_28 : decode cX7_undo 28 = .ok (.aload_n 0, 1) := by decide +kernel
theorem dX7_undo_29 : decode cX7_undo 29 = .ok (.getfield 30, 3) := by decide +kernel
theorem dX7_undo_32 : decode cX7_undo 32 = .ok (.getfield 299, 3) := by decide +kernel
theorem dX7_undo_35 : decode cX7_undo 35 = .ok (.invokevirtual 100, 3) := by decide +kernel
theorem dX7_undo_38 : decode cX7_undo 38 = .ok (.ireturn, 1) := by decide +kernel
theorem dX7_same_0 : decode cX7_same 0 = .ok (.aload_n 0, 1) := by decide +kernel
theorem dX7_same_1 : decode cX7_same 1 = .ok (.iload_n 1, 1) := by decide +kernel
theorem dX7_same_2 : decode cX7_same 2 = .ok (.invokevirtual 103, 3) := by decide +kernel
theorem dX7_same_5 : decode cX7_same 5 = .ok (.ifCond .eq 11, 3) := by decide +kernel
theorem dX7_same_8 : decode cX7_same 8 = .ok (.aload_n 0, 1) := by decide +kernel
theorem dX7_same_9 : decode cX7_same 9 = .ok (.iload_n 2, 1) := by decide +kernel
theorem dX7_same_10 : decode cX7_same 10 = .ok (.invokevirtual 103, 3) := by decide +kernel
theorem dX7_same_13 : decode cX7_same 13 = .ok (.ifCond .ne 9, 3) := by decide +kernel
theorem dX7_same_16 : decode cX7_same 16 = .ok (.aload_n 0, 1) := by decide +kernel
theorem dX7_same_17 : decode cX7_same 17 = .ok (.iconst 1, 1) := by decide +kernel
theorem dX7_same_18 : decode cX7_same 18 = .ok (.invokevirtual 70, 3) := by decide +kernel
theorem dX7_same_21 : decode cX7_same 21 = .ok (.ireturn, 1) := by decide +kernel
theorem dX7_same_22 : decode cX7_same 22 = .ok (.aload_n 0, 1) := by decide +kernel
theorem dX7_same_23 : decode cX7_same 23 = .ok (.getfield 18, 3) := by decide +kernel
theorem dX7_same_26 : decode cX7_same 26 = .ok (.iload_n 1, 1) := by decide +kernel
theorem dX7_same_27 : decode cX7_same 27 = .ok (.aaload, 1) := by decide +kernel
theorem dX7_same_28 : decode cX7_same 28 = .ok (.aload_n 0, 1) := by decide +kernel
theorem dX7_same_29 : decode cX7_same 29 = .ok (.getfield 18, 3) := by decide +kernel
theorem dX7_same_32 : decode cX7_same 32 = .ok (.iload_n 2, 1) := by decide +kernel
theorem dX7_same_33 : decode cX7_same 33 = .ok (.aaload, 1) := by decide +kernel
theorem dX7_same_34 : decode cX7_same 34 = .ok (.invokevirtual 292, 3) := by decide +kernel
theorem dX7_same_37 : decode cX7_same 37 = .ok (.ifCond .eq 25, 3) := by decide +kernel
theorem dX7_same_40 : decode cX7_same 40 = .ok (.aload_n 0, 1) := by decide +kernel
theorem dX7_same_41 : decode cX7_same 41 = .ok (.getfield 18, 3) := by decide +kernel
theorem dX7_same_44 : decode cX7_same 44 = .ok (.iload_n 1, 1) := by decide +kernel
theorem dX7_same_45 : decode cX7_same 45 = .ok (.aaload, 1) := by decide +kernel
theorem dX7_same_46 : decode cX7_same 46 = .ok (.aload_n 0, 1) := by decide +kernel
theorem dX7_same_47 : decode cX7_same 47 = .ok (.getfield 18, 3) := by decide +kernel
theorem dX7_same_50 : decode cX7_same 50 = .ok (.iload_n 2, 1) := by decide +kernel
theorem dX7_same_51 : decode cX7_same 51 = .ok (.aaload, 1) := by decide +kernel
theorem dX7_same_52 : decode cX7_same 52 = .ok (.invokevirtual 305, 3) := by decide +kernel
theorem dX7_same_55 : decode cX7_same 55 = .ok (.ifCond .eq 7, 3) := by decide +kernel
theorem dX7_same_58 : decode cX7_same 58 = .ok (.iconst 1, 1) := by decide +kernel
theorem dX7_same_59 : decode cX7_same 59 = .ok (.goto 4, 3) := by decide +kernel
theorem dX7_same_62 : decode cX7_same 62 = .ok (.iconst 0, 1) := by decide +kernel
theorem dX7_same_63 : decode cX7_same 63 = .ok (.istore_n 3, 1) := by decide +kernel
theorem dX7_same_64 : decode cX7_same 64 = .ok (.aload_n 0, 1) := by decide +kernel
theorem dX7_same_65 : decode cX7_same 65 = .ok (.iload_n 3, 1) := by decide +kernel
theorem dX7_same_66 : decode cX7_same 66 = .ok (.ifCond .eq 7, 3) := by decide +kernel
theorem dX7_same_69 : decode cX7_same 69 = .ok (.iconst 1, 1) := by decide +kernel
theorem dX7_same_70 : decode cX7_same 70 = .ok (.goto 4, 3) := by decide +kernel
theorem dX7_same_73 : decode cX7_same 73 = .ok (.iconst 0, 1) := by decide +kernel
theorem dX7_same_74 : decode cX7_same 74 = .ok (.invokevirtual 100, 3) := by decide +kernel
theorem dX7_same_77 : decode cX7_same 77 = .ok (.ireturn, 1) := by decide +kernel
theorem dX7_letter_0 : decode cX7_letter 0 = .ok (.aload_n 0, 1) := by decide +kernel
theorem dX7_letter_1 : decode cX7_letter 1 = .ok (.getfield 10, 3) := by decide +kernel
theorem dX7_letter_4 : decode cX7_letter 4 = .ok (.iload_n 1, 1) := by decide +kernel
theorem dX7_letter_5 : decode cX7_letter 5 = .ok (.iload_n 2, 1) := by decide +kernel
theorem dX7_letter_6 : decode cX7_letter 6 = .ok (.invokevirtual 308, 3) := by decide +kernel
theorem dX7_letter_9 : decode cX7_letter 9 = .ok (.istore_n 3, 1) := by decide +kernel
theorem dX7_letter_10 : decode cX7_letter 10 = .ok (.iload_n 3, 1) := by decide +kernel
theorem dX7_letter_11 : decode cX7_letter 11 = .ok (.ifCond .ge 11, 3) := by decide +kernel
theorem dX7_letter_14 : decode cX7_letter 14 = .ok (.new 311, 3) := by decide +kernel
theorem dX7_letter_17 : decode cX7_letter 17 = .ok (.dup, 1) := by decide +kernel
theorem dX7_letter_18 : decode cX7_letter 18 = .ok (.invokespecial 313, 3) := by decide +kernel
theorem dX7_letter_21 : decode cX7_letter 21 = .ok (.athrow, 1) := by decide +kernel
theorem dX7_letter_22 : decode cX7_letter 22 = .ok (.iload_n 3, 1) := by decide +kernel
theorem dX7_letter_23 : decode cX7_letter 23 = .ok (.ireturn, 1) := by decide +kernel
theorem dX7_bytes_0 : decode cX7_bytes 0 = .ok (.aload_n 0, 1) := by decide +kernel
theorem dX7_bytes_1 : decode cX7_bytes 1 = .ok (.getfield 10, 3) := by decide +kernel
theorem dX7_bytes_4 : decode cX7_bytes 4 = .ok (.getfield 67, 3) := by decide +kernel
theorem dX7_bytes_7 : decode cX7_bytes 7 = .ok (.ireturn, 1) := by decide +kernel
theorem dX7_trouble_0 : decode cX7_trouble 0 = .ok (.aload_n 0, 1) := by decide +kernel
theorem dX7_trouble_1 : decode cX7_trouble 1 = .ok (.getfield 314, 3) := by decide +kernel
theorem dX7_trouble_4 : decode cX7_trouble 4 = .ok (.ireturn, 1) := by decide +kernel
theorem dX7_refuse_0 : decode cX7_refuse 0 = .ok (.aload_n 0, 1) := by decide +kernel
theorem dX7_refuse_1 : decode cX7_refuse 1 = .ok (.iload_n 1, 1) := by decide +kernel
theorem dX7_refuse_2 : decode cX7_refuse 2 = .ok (.putfield 314, 3) := by decide +kernel
theorem dX7_refuse_5 : decode cX7_refuse 5 = .ok (.aload_n 0, 1) := by decide +kernel
theorem dX7_refuse_6 : decode cX7_refuse 6 = .ok (.iconst (-1), 1) := by decide +kernel
theorem dX7_refuse_7 : decode cX7_refuse 7 = .ok (.putfield 55, 3) := by decide +kernel
theorem dX7_refuse_10 : decode cX7_refuse 10 = .ok (.iconst (-1), 1) := by decide +kernel
theorem dX7_refuse_11 : decode cX7_refuse 11 = .ok (.ireturn, 1) := by decide +kernel
theorem dX7_accept_0 : decode cX7_accept 0 = .ok (.aload_n 0, 1) := by decide +kernel
theorem dX7_accept_1 : decode cX7_accept 1 = .ok (.iconst 0, 1) := by decide +kernel
theorem dX7_accept_2 : decode cX7_accept 2 = .ok (.putfield 314, 3) := by decide +kernel
theorem dX7_accept_5 : decode cX7_accept 5 = .ok (.aload_n 0, 1) := by decide +kernel
theorem dX7_accept_6 : decode cX7_accept 6 = .ok (.iconst (-1), 1) := by decide +kernel
theorem dX7_accept_7 : decode cX7_accept 7 = .ok (.putfield 55, 3) := by decide +kernel
theorem dX7_accept_10 : decode cX7_accept 10 = .ok (.iload_n 1, 1) := by decide +kernel
theorem dX7_accept_11 : decode cX7_accept 11 = .ok (.ireturn, 1) := by decide +kernel
theorem dX7_act_0 : decode cX7_act 0 = .ok (.aload_n 0, 1) := by decide +kernel
theorem dX7_act_1 : decode cX7_act 1 = .ok (.getfield 30, 3) := by decide +kernel
theorem dX7_act_4 : decode cX7_act 4 = .ok (.iload_n 1, 1) := by decide +kernel
theorem dX7_act_5 : decode cX7_act 5 = .ok (.aload_n 0, 1) := by decide +kernel
theorem dX7_act_6 : decode cX7_act 6 = .ok (.getfield 18, 3) := by decide +kernel
theorem dX7_act_9 : decode cX7_act 9 = .ok (.iload_n 1, 1) := by decide +kernel
theorem dX7_act_10 : decode cX7_act 10 = .ok (.aaload, 1) := by decide +kernel
theorem dX7_act_11 : decode cX7_act 11 = .ok (.invokevirtual 317, 3) := by decide +kernel
theorem dX7_act_14 : decode cX7_act 14 = .ok (.aload_n 0, 1) := by decide +kernel
theorem dX7_act_15 : decode cX7_act 15 = .ok (.getfield 18, 3) := by decide +kernel
theorem dX7_act_18 : decode cX7_act 18 = .ok (.iload_n 1, 1) := by decide +kernel
theorem dX7_act_19 : decode cX7_act 19 = .ok (.aaload, 1) := by decide +kernel
theorem dX7_act_20 : decode cX7_act 20 = .ok (.aload_n 0, 1) := by decide +kernel
theorem dX7_act_21 : decode cX7_act 21 = .ok (.getfield 23, 3) := by decide +kernel
theorem dX7_act_24 : decode cX7_act 24 = .ok (.invokevirtual 218, 3) := by decide +kernel
theorem dX7_act_27 : decode cX7_act 27 = .ok (.aload_n 0, 1) := by decide +kernel
theorem dX7_act_28 : decode cX7_act 28 = .ok (.iload_n 2, 1) := by decide +kernel
theorem dX7_act_29 : decode cX7_act 29 = .ok (.invokevirtual 100, 3) := by decide +kernel
theorem dX7_act_32 : decode cX7_act 32 = .ok (.ireturn, 1) := by decide +kernel
theorem dX7_flawOf_0 : decode cX7_flawOf 0 = .ok (.iload_n 0, 1) := by decide +kernel
theorem dX7_flawOf_1 : decode cX7_flawOf 1 = .ok (.ifCond .ne 5, 3) := by decide +kernel
theorem dX7_flawOf_4 : decode cX7_flawOf 4 = .ok (.iconst 1, 1) := by decide +kernel
theorem dX7_flawOf_5 : decode cX7_flawOf 5 = .ok (.ireturn, 1) := by decide +kernel
theorem dX7_flawOf_6 : decode cX7_flawOf 6 = .ok (.iload_n 1, 1) := by decide +kernel
theorem dX7_flawOf_7 : decode cX7_flawOf 7 = .ok (.ifCond .eq 7, 3) := by decide +kernel
theorem dX7_flawOf_10 : decode cX7_flawOf 10 = .ok (.iconst 0, 1) := by decide +kernel
theorem dX7_flawOf_11 : decode cX7_flawOf 11 = .ok (.goto 4, 3) := by decide +kernel
theorem dX7_flawOf_14 : decode cX7_flawOf 14 = .ok (.iconst 2, 1) := by decide +kernel
theorem dX7_flawOf_15 : decode cX7_flawOf 15 = .ok (.ireturn, 1) := by decide +kernel
theorem dX7_isSlot_0 : decode cX7_isSlot 0 = .ok (.iload_n 0, 1) := by decide +kernel
theorem dX7_isSlot_1 : decode cX7_isSlot 1 = .ok (.ifCond .lt 13, 3) := by decide +kernel
theorem dX7_isSlot_4 : decode cX7_isSlot 4 = .ok (.iload_n 0, 1) := by decide +kernel
theorem dX7_isSlot_5 : decode cX7_isSlot 5 = .ok (.bipush 8, 2) := by decide +kernel
theorem dX7_isSlot_7 : decode cX7_isSlot 7 = .ok (.if_icmp .ge 7, 3) := by decide +kernel
theorem dX7_isSlot_10 : decode cX7_isSlot 10 = .ok (.iconst 1, 1) := by decide +kernel
theorem dX7_isSlot_11 : decode cX7_isSlot 11 = .ok (.goto 4, 3) := by decide +kernel
theorem dX7_isSlot_14 : decode cX7_isSlot 14 = .ok (.iconst 0, 1) := by decide +kernel
theorem dX7_isSlot_15 : decode cX7_isSlot 15 = .ok (.ireturn, 1) := by decide +kernel
theorem dX7_isCode_0 : decode cX7_isCode 0 = .ok (.iload_n 1, 1) := by decide +kernel
theorem dX7_isCode_1 : decode cX7_isCode 1 = .ok (.invokestatic 239, 3) := by decide +kernel
theorem dX7_isCode_4 : decode cX7_isCode 4 = .ok (.ifCond .eq 19, 3) := by decide +kernel
theorem dX7_isCode_7 : decode cX7_isCode 7 = .ok (.aload_n 0, 1) := by decide +kernel
theorem dX7_isCode_8 : decode cX7_isCode 8 = .ok (.getfield 18, 3) := by decide +kernel
theorem dX7_isCode_11 : decode cX7_isCode 11 = .ok (.iload_n 1, 1) := by decide +kernel
theorem dX7_isCode_12 : decode cX7_isCode 12 = .ok (.aaload, 1) := by decide +kernel
theorem dX7_isCode_13 : decode cX7_isCode 13 = .ok (.getfield 321, 3) := by decide +kernel
theorem dX7_isCode_16 : decode cX7_isCode 16 = .ok (.ifCond .eq 7, 3) := by decide +kernel
theorem dX7_isCode_19 : decode cX7_isCode 19 = .ok (.iconst 1, 1) := by decide +kernel
theorem dX7_isCode_20 : decode cX7_isCode 20 = .ok (.goto 4, 3) := by decide +kernel
theorem dX7_isCode_23 : decode cX7_isCode 23 = .ok (.iconst 0, 1) := by decide +kernel
theorem dX7_isCode_24 : decode cX7_isCode 24 = .ok (.ireturn, 1) := by decide +kernel
theorem dX7_isWord_0 : decode cX7_isWord 0 = .ok (.aload_n 0, 1) := by decide +kernel
theorem dX7_isWord_1 : decode cX7_isWord 1 = .ok (.iload_n 1, 1) := by decide +kernel
theorem dX7_isWord_2 : decode cX7_isWord 2 = .ok (.invokevirtual 103, 3) := by decide +kernel
theorem dX7_isWord_5 : decode cX7_isWord 5 = .ok (.ifCond .eq 24, 3) := by decide +kernel
theorem dX7_isWord_8 : decode cX7_isWord 8 = .ok (.iload_n 2, 1) := by decide +kernel
theorem dX7_isWord_9 : decode cX7_isWord 9 = .ok (.ifCond .lt 20, 3) := by decide +kernel
theorem dX7_isWord_12 : decode cX7_isWord 12 = .ok (.iload_n 2, 1) := by decide +kernel
theorem dX7_isWord_13 : decode cX7_isWord 13 = .ok (.aload_n 0, 1) := by decide +kernel
theorem dX7_isWord_14 : decode cX7_isWord 14 = .ok (.getfield 18, 3) := by decide +kernel
theorem dX7_isWord_17 : decode cX7_isWord 17 = .ok (.iload_n 1, 1) := by decide +kernel
theorem dX7_isWord_18 : decode cX7_isWord 18 = .ok (.aaload, 1) := by decide +kernel
theorem dX7_isWord_19 : decode cX7_isWord 19 = .ok (.getfield 211, 3) := by decide +kernel
theorem dX7_isWord_22 : decode cX7_isWord 22 = .ok (.if_icmp .ge 7, 3) := by decide +kernel
theorem dX7_isWord_25 : decode cX7_isWord 25 = .ok (.iconst 1, 1) := by decide +kernel
theorem dX7_isWord_26 : decode cX7_isWord 26 = .ok (.goto 4, 3) := by decide +kernel
theorem dX7_isWord_29 : decode cX7_isWord 29 = .ok (.iconst 0, 1) := by decide +kernel
theorem dX7_isWord_30 : decode cX7_isWord 30 = .ok (.ireturn, 1) := by decide +kernel
theorem dX7_isPlace_0 : decode cX7_isPlace 0 = .ok (.aload_n 0, 1) := by decide +kernel
theorem dX7_isPlace_1 : decode cX7_isPlace 1 = .ok (.iload_n 1, 1) := by decide +kernel
theorem dX7_isPlace_2 : decode cX7_isPlace 2 = .ok (.invokevirtual 103, 3) := by decide +kernel
theorem dX7_isPlace_5 : decode cX7_isPlace 5 = .ok (.ifCond .eq 24, 3) := by decide +kernel
theorem dX7_isPlace_8 : decode cX7_isPlace 8 = .ok (.iload_n 2, 1) := by decide +kernel
theorem dX7_isPlace_9 : decode cX7_isPlace 9 = .ok (.ifCond .lt 20, 3) := by decide +kernel
theorem dX7_isPlace_12 : decode cX7_isPlace 12 = .ok (.iload_n 2, 1) := by decide +kernel
theorem dX7_isPlace_13 : decode cX7_isPlace 13 = .ok (.aload_n 0, 1) := by decide +kernel
theorem dX7_isPlace_14 : decode cX7_isPlace 14 = .ok (.getfield 18, 3) := by decide +kernel
theorem dX7_isPlace_17 : decode cX7_isPlace 17 = .ok (.iload_n 1, 1) := by decide +kernel
theorem dX7_isPlace_18 : decode cX7_isPlace 18 = .ok (.aaload, 1) := by decide +kernel
theorem dX7_isPlace_19 : decode cX7_isPlace 19 = .ok (.getfield 269, 3) := by decide +kernel
theorem dX7_isPlace_22 : decode cX7_isPlace 22 = .ok (.if_icmp .ge 7, 3) := by decide +kernel
theorem dX7_isPlace_25 : decode cX7_isPlace 25 = .ok (.iconst 1, 1) := by decide +kernel
theorem dX7_isPlace_26 : decode cX7_isPlace 26 = .ok (.goto 4, 3) := by decide +kernel
theorem dX7_isPlace_29 : decode cX7_isPlace 29 = .ok (.iconst 0, 1) := by decide +kernel
theorem dX7_isPlace_30 : decode cX7_isPlace 30 = .ok (.ireturn, 1) := by decide +kernel
theorem dX7_isDigit_0 : decode cX7_isDigit 0 = .ok (.iload_n 3, 1) := by decide +kernel
theorem dX7_isDigit_1 : decode cX7_isDigit 1 = .ok (.ifCond .lt 22, 3) := by decide +kernel
theorem dX7_isDigit_4 : decode cX7_isDigit 4 = .ok (.iload_n 3, 1) := by decide +kernel
theorem dX7_isDigit_5 : decode cX7_isDigit 5 = .ok (.aload_n 0, 1) := by decide +kernel
theorem dX7_isDigit_6 : decode cX7_isDigit 6 = .ok (.getfield 18, 3) := by decide +kernel
theorem dX7_isDigit_9 : decode cX7_isDigit 9 = .ok (.iload_n 1, 1) := by decide +kernel
theorem dX7_isDigit_10 : decode cX7_isDigit 10 = .ok (.aaload, 1) := by decide +kernel
theorem dX7_isDigit_11 : decode cX7_isDigit 11 = .ok (.getfield 114, 3) := by decide +kernel
theorem dX7_isDigit_14 : decode cX7_isDigit 14 = .ok (.iload_n 2, 1) := by decide +kernel
theorem dX7_isDigit_15 : decode cX7_isDigit 15 = .ok (.iaload, 1) := by decide +kernel
theorem dX7_isDigit_16 : decode cX7_isDigit 16 = .ok (.if_icmp .ge 7, 3) := by decide +kernel
theorem dX7_isDigit_19 : decode cX7_isDigit 19 = .ok (.iconst 1, 1) := by decide +kernel
theorem dX7_isDigit_20 : decode cX7_isDigit 20 = .ok (.goto 4, 3) := by decide +kernel
theorem dX7_isDigit_23 : decode cX7_isDigit 23 = .ok (.iconst 0, 1) := by decide +kernel
theorem dX7_isDigit_24 : decode cX7_isDigit 24 = .ok (.ireturn, 1) := by decide +kernel
theorem dX7_isSlips_0 : decode cX7_isSlips 0 = .ok (.iload_n 0, 1) := by decide +kernel
theorem dX7_isSlips_1 : decode cX7_isSlips 1 = .ok (.ifCond .lt 13, 3) := by decide +kernel
theorem dX7_isSlips_4 : decode cX7_isSlips 4 = .ok (.iload_n 0, 1) := by decide +kernel
theorem dX7_isSlips_5 : decode cX7_isSlips 5 = .ok (.bipush 24, 2) := by decide +kernel
theorem dX7_isSlips_7 : decode cX7_isSlips 7 = .ok (.if_icmp .gt 7, 3) := by decide +kernel
theorem dX7_isSlips_10 : decode cX7_isSlips 10 = .ok (.iconst 1, 1) := by decide +kernel
theorem dX7_isSlips_11 : decode cX7_isSlips 11 = .ok (.goto 4, 3) := by decide +kernel
theorem dX7_isSlips_14 : decode cX7_isSlips 14 = .ok (.iconst 0, 1) := by decide +kernel
theorem dX7_isSlips_15 : decode cX7_isSlips 15 = .ok (.ireturn, 1) := by decide +kernel
theorem dX7_isSize_0 : decode cX7_isSize 0 = .ok (.iload_n 0, 1) := by decide +kernel
theorem dX7_isSize_1 : decode cX7_isSize 1 = .ok (.iconst 2, 1) := by decide +kernel
theorem dX7_isSize_2 : decode cX7_isSize 2 = .ok (.if_icmp .lt 12, 3) := by decide +kernel
theorem dX7_isSize_5 : decode cX7_isSize 5 = .ok (.iload_n 0, 1) := by decide +kernel
theorem dX7_isSize_6 : decode cX7_isSize 6 = .ok (.iconst 4, 1) := by decide +kernel
theorem dX7_isSize_7 : decode cX7_isSize 7 = .ok (.if_icmp .gt 7, 3) := by decide +kernel
theorem dX7_isSize_10 : decode cX7_isSize 10 = .ok (.iconst 1, 1) := by decide +kernel
theorem dX7_isSize_11 : decode cX7_isSize 11 = .ok (.goto 4, 3) := by decide +kernel
theorem dX7_isSize_14 : decode cX7_isSize 14 = .ok (.iconst 0, 1) := by decide +kernel
theorem dX7_isSize_15 : decode cX7_isSize 15 = .ok (.ireturn, 1) := by decide +kernel
theorem dX7_isWeight_0 : decode cX7_isWeight 0 = .ok (.iload_n 0, 1) := by decide +kernel
theorem dX7_isWeight_1 : decode cX7_isWeight 1 = .ok (.iconst 1, 1) := by decide +kernel
theorem dX7_isWeight_2 : decode cX7_isWeight 2 = .ok (.if_icmp .lt 12, 3) := by decide +kernel
theorem dX7_isWeight_5 : decode cX7_isWeight 5 = .ok (.iload_n 0, 1) := by decide +kernel
theorem dX7_isWeight_6 : decode cX7_isWeight 6 = .ok (.iconst 3, 1) := by decide +kernel
theorem dX7_isWeight_7 : decode cX7_isWeight 7 = .ok (.if_icmp .gt 7, 3) := by decide +kernel
theorem dX7_isWeight_10 : decode cX7_isWeight 10 = .ok (.iconst 1, 1) := by decide +kernel
theorem dX7_isWeight_11 : decode cX7_isWeight 11 = .ok (.goto 4, 3) := by decide +kernel
theorem dX7_isWeight_14 : decode cX7_isWeight 14 = .ok (.iconst 0, 1) := by decide +kernel
theorem dX7_isWeight_15 : decode cX7_isWeight 15 = .ok (.ireturn, 1) := by decide +kernel
theorem dX7_layTimes_0 : decode cX7_layTimes 0 = .ok (.aload_n 0, 1) := by decide +kernel
theorem dX7_layTimes_1 : decode cX7_layTimes 1 = .ok (.getfield 37, 3) := by decide +kernel
theorem dX7_layTimes_4 : decode cX7_layTimes 4 = .ok (.aload_n 1, 1) := by decide +kernel
theorem dX7_layTimes_5 : decode cX7_layTimes 5 = .ok (.invokevirtual 130, 3) := by decide +kernel
theorem dX7_layTimes_8 : decode cX7_layTimes 8 = .ok (.aload_n 0, 1) := by decide +kernel
theorem dX7_layTimes_9 : decode cX7_layTimes 9 = .ok (.getfield 37, 3) := by decide +kernel
theorem dX7_layTimes_12 : decode cX7_layTimes 12 = .ok (.aload_n 1, 1) := by decide +kernel
theorem dX7_layTimes_13 : decode cX7_layTimes 13 = .ok (.iload_n 2, 1) := by decide +kernel
theorem dX7_layTimes_14 : decode cX7_layTimes 14 = .ok (.invokevirtual 325, 3) := by decide +kernel
theorem dX7_layTimes_17 : decode cX7_layTimes 17 = .ok (.return_, 1) := by decide +kernel
theorem dX7_aspect_0 : decode cX7_aspect 0 = .ok (.iload_n 2, 1) := by decide +kernel
theorem dX7_aspect_1 : decode cX7_aspect 1 = .ok (.tableswitch 85 0 4 #[35, 40, 45, 50, 55], 35) := by decide +kernel
theorem dX7_aspect_36 : decode cX7_aspect 36 = .ok (.aload_n 1, 1) := by decide +kernel
theorem dX7_aspect_37 : decode cX7_aspect 37 = .ok (.getfield 269, 3) := by decide +kernel
theorem dX7_aspect_40 : decode cX7_aspect 40 = .ok (.ireturn, 1) := by decide +kernel
theorem dX7_aspect_41 : decode cX7_aspect 41 = .ok (.aload_n 1, 1) := by decide +kernel
theorem dX7_aspect_42 : decode cX7_aspect 42 = .ok (.getfield 211, 3) := by decide +kernel
theorem dX7_aspect_45 : decode cX7_aspect 45 = .ok (.ireturn, 1) := by decide +kernel
theorem dX7_aspect_46 : decode cX7_aspect 46 = .ok (.aload_n 1, 1) := by decide +kernel
theorem dX7_aspect_47 : decode cX7_aspect 47 = .ok (.getfield 185, 3) := by decide +kernel
theorem dX7_aspect_50 : decode cX7_aspect 50 = .ok (.ireturn, 1) := by decide +kernel
theorem dX7_aspect_51 : decode cX7_aspect 51 = .ok (.aload_n 1, 1) := by decide +kernel
theorem dX7_aspect_52 : decode cX7_aspect 52 = .ok (.invokevirtual 328, 3) := by decide +kernel
theorem dX7_aspect_55 : decode cX7_aspect 55 = .ok (.ireturn, 1) := by decide +kernel
theorem dX7_aspect_56 : decode cX7_aspect 56 = .ok (.aload_n 0, 1) := by decide +kernel
theorem dX7_aspect_57 : decode cX7_aspect 57 = .ok (.getfield 37, 3) := by decide +kernel
theorem dX7_aspect_60 : decode cX7_aspect 60 = .ok (.aload_n 1, 1) := by decide +kernel
theorem dX7_aspect_61 : decode cX7_aspect 61 = .ok (.invokevirtual 130, 3) := by decide +kernel
theorem dX7_aspect_64 : decode cX7_aspect 64 = .ok (.aload_n 1, 1) := by decide +kernel
theorem dX7_aspect_65 : decode cX7_aspect 65 = .ok (.getfield 185, 3) := by decide +kernel
theorem dX7_aspect_68 : decode cX7_aspect 68 = .ok (.iconst 1, 1) := by decide +kernel
theorem dX7_aspect_69 : decode cX7_aspect 69 = .ok (.if_icmp .ge 8, 3) := by decide +kernel
theorem dX7_aspect_72 : decode cX7_aspect 72 = .ok (.bipush (-2), 2) := by decide +kernel
theorem dX7_aspect_74 : decode cX7_aspect 74 = .ok (.goto 11, 3) := by decide +kernel
theorem dX7_aspect_77 : decode cX7_aspect 77 = .ok (.aload_n 0, 1) := by decide +kernel
theorem dX7_aspect_78 : decode cX7_aspect 78 = .ok (.getfield 37, 3) := by decide +kernel
theorem dX7_aspect_81 : decode cX7_aspect 81 = .ok (.aload_n 1, 1) := by decide +kernel
theorem dX7_aspect_82 : decode cX7_aspect 82 = .ok (.invokevirtual 331, 3) := by decide +kernel
theorem dX7_aspect_85 : decode cX7_aspect 85 = .ok (.ireturn, 1) := by decide +kernel
theorem dX7_aspect_86 : decode cX7_aspect 86 = .ok (.aload_n 0, 1) := by decide +kernel
theorem dX7_aspect_87 : decode cX7_aspect 87 = .ok (.getfield 37, 3) := by decide +kernel
theorem dX7_aspect_90 : decode cX7_aspect 90 = .ok (.aload_n 1, 1) := by decide +kernel
theorem dX7_aspect_91 : decode cX7_aspect 91 = .ok (.invokevirtual 130, 3) := by decide +kernel
theorem dX7_aspect_94 : decode cX7_aspect 94 = .ok (.aload_n 1, 1) := by decide +kernel
theorem dX7_aspect_95 : decode cX7_aspect 95 = .ok (.getfield 185, 3) := by decide +kernel
theorem dX7_aspect_98 : decode cX7_aspect 98 = .ok (.iconst 2, 1) := by decide +kernel
theorem dX7_aspect_99 : decode cX7_aspect 99 = .ok (.if_icmp .ge 8, 3) := by decide +kernel
theorem dX7_aspect_102 : decode cX7_aspect 102 = .ok (.bipush (-2), 2) := by decide +kernel
theorem dX7_aspect_104 : decode cX7_aspect 104 = .ok (.goto 11, 3) := by decide +kernel
theorem dX7_aspect_107 : decode cX7_aspect 107 = .ok (.aload_n 0, 1) := by decide +kernel
theorem dX7_aspect_108 : decode cX7_aspect 108 = .ok (.getfield 37, 3) := by decide +kernel
theorem dX7_aspect_111 : decode cX7_aspect 111 = .ok (.aload_n 1, 1) := by decide +kernel
theorem dX7_aspect_112 : decode cX7_aspect 112 = .ok (.invokevirtual 334, 3) := by decide +kernel
theorem dX7_aspect_115 : decode cX7_aspect 115 = .ok (.ireturn, 1) := by decide +kernel
theorem dX8_init_0 : decode cX8_init 0 = .ok (.aload_n 0, 1) := by decide +kernel
theorem dX8_init_1 : decode cX8_init 1 = .ok (.invokespecial 3, 3) := by decide +kernel
theorem dX8_init_4 : decode cX8_init 4 = .ok (.aload_n 0, 1) := by decide +kernel
theorem dX8_init_5 : decode cX8_init 5 = .ok (.iconst (-1), 1) := by decide +kernel
theorem dX8_init_6 : decode cX8_init 6 = .ok (.putfield 9, 3) := by decide +kernel
theorem dX8_init_9 : decode cX8_init 9 = .ok (.aload_n 0, 1) := by decide +kernel
theorem dX8_init_10 : decode cX8_init 10 = .ok (.sipush 600, 3) := by decide +kernel
theorem dX8_init_13 : decode cX8_init 13 = .ok (.newarray .int, 2) := by decide +kernel
theorem dX8_init_15 : decode cX8_init 15 = .ok (.putfield 13, 3) := by decide +kernel
theorem dX8_init_18 : decode cX8_init 18 = .ok (.aload_n 0, 1) := by decide +kernel
theorem dX8_init_19 : decode cX8_init 19 = .ok (.sipush 3822, 3) := by decide +kernel
theorem dX8_init_22 : decode cX8_init 22 = .ok (.newarray .int, 2) := by decide +kernel
theorem dX8_init_24 : decode cX8_init 24 = .ok (.putfield 17, 3) := by decide +kernel
theorem dX8_init_27 : decode cX8_init 27 = .ok (.aload_n 0, 1) := by decide +kernel
theorem dX8_init_28 : decode cX8_init 28 = .ok (.sipush 21840, 3) := by decide +kernel
theorem dX8_init_31 : decode cX8_init 31 = .ok (.newarray .int, 2) := by decide +kernel
theorem dX8_init_33 : decode cX8_init 33 = .ok (.putfield 20, 3) := by decide +kernel
theorem dX8_init_36 : decode cX8_init 36 = .ok (.aload_n 0, 1) := by decide +kernel
theorem dX8_init_37 : decode cX8_init 37 = .ok (.iconst 4, 1) := by decide +kernel
theorem dX8_init_38 : decode cX8_init 38 = .ok (.newarray .long, 2) := by decide +kernel
theorem dX8_init_40 : decode cX8_init 40 = .ok (.putfield 23, 3) := by decide +kernel
theorem dX8_init_43 : decode cX8_init 43 = .ok (.aload_n 0, 1) := by decide +kernel
theorem dX8_init_44 : decode cX8_init 44 = .ok (.iconst 4, 1) := by decide +kernel
theorem dX8_init_45 : decode cX8_init 45 = .ok (.newarray .long, 2) := by decide +kernel
theorem dX8_init_47 : decode cX8_init 47 = .ok (.putfield 27, 3) := by decide +kernel
theorem dX8_init_50 : decode cX8_init 50 = .ok (.aload_n 0, 1) := by decide +kernel
theorem dX8_init_51 : decode cX8_init 51 = .ok (.sipush 256, 3) := by decide +kernel
theorem dX8_init_54 : decode cX8_init 54 = .ok (.newarray .int, 2) := by decide +kernel
theorem dX8_init_56 : decode cX8_init 56 = .ok (.putfield 30, 3) := by decide +kernel
theorem dX8_init_59 : decode cX8_init 59 = .ok (.aload_n 0, 1) := by decide +kernel
theorem dX8_init_60 : decode cX8_init 60 = .ok (.bipush 81, 2) := by decide +kernel
theorem dX8_init_62 : decode cX8_init 62 = .ok (.newarray .long, 2) := by decide +kernel
theorem dX8_init_64 : decode cX8_init 64 = .ok (.putfield 33, 3) := by decide +kernel
theorem dX8_init_67 : decode cX8_init 67 = .ok (.aload_n 0, 1) := by decide +kernel
theorem dX8_init_68 : decode cX8_init 68 = .ok (.bipush 81, 2) := by decide +kernel
theorem dX8_init_70 : decode cX8_init 70 = .ok (.newarray .long, 2) := by decide +kernel
theorem dX8_init_72 : decode cX8_init 72 = .ok (.putfield 36, 3) := by decide +kernel
theorem dX8_init_75 : decode cX8_init 75 = .ok (.aload_n 0, 1) := by decide +kernel
theorem dX8_init_76 : decode cX8_init 76 = .ok (.bipush 8, 2) := by decide +kernel
theorem dX8_init_78 : decode cX8_init 78 = .ok (.newarray .int, 2) := by decide +kernel
theorem dX8_init_80 : decode cX8_init 80 = .ok (.putfield 39, 3) := by decide +kernel
theorem dX8_init_83 : decode cX8_init 83 = .ok (.return_, 1) := by decide +kernel
theorem dX8_thrown_0 : decode cX8_thrown 0 = .ok (.aload_n 0, 1) := by decide +kernel
theorem dX8_thrown_1 : decode cX8_thrown 1 = .ok (.getfield 42, 3) := by decide +kernel
theorem dX8_thrown_4 : decode cX8_thrown 4 = .ok (.ireturn, 1) := by decide +kernel
theorem dX8_refused_0 : decode cX8_refused 0 = .ok (.aload_n 0, 1) := by decide +kernel
theorem dX8_refused_1 : decode cX8_refused 1 = .ok (.iload_n 1, 1) := by decide +kernel
theorem dX8_refused_2 : decode cX8_refused 2 = .ok (.putfield 45, 3) := by decide +kernel
theorem dX8_refused_5 : decode cX8_refused 5 = .ok (.aload_n 0, 1) := by decide +kernel
theorem dX8_refused_6 : decode cX8_refused 6 = .ok (.iconst (-1), 1) := by decide +kernel
theorem dX8_refused_7 : decode cX8_refused 7 = .ok (.putfield 9, 3) := by decide +kernel
theorem dX8_refused_10 : decode cX8_refused 10 = .ok (.iconst (-1), 1) := by decide +kernel
theorem dX8_refused_11 : decode cX8_refused 11 = .ok (.ireturn, 1) := by decide +kernel
theorem dX8_good_0 : decode cX8_good 0 = .ok (.aload_n 0, 1) := by decide +kernel
theorem dX8_good_1 : decode cX8_good 1 = .ok (.iconst 0, 1) := by decide +kernel
theorem dX8_good_2 : decode cX8_good 2 = .ok (.putfield 45, 3) := by decide +kernel
theorem dX8_good_5 : decode cX8_good 5 = .ok (.aload_n 0, 1) := by decide +kernel
theorem dX8_good_6 : decode cX8_good 6 = .ok (.iconst (-1), 1) := by decide +kernel
theorem dX8_good_7 : decode cX8_good 7 = .ok (.putfield 9, 3) := by decide +kernel
theorem dX8_good_10 : decode cX8_good 10 = .ok (.iload_n 1, 1) := by decide +kernel
theorem dX8_good_11 : decode cX8_good 11 = .ok (.ireturn, 1) := by decide +kernel
theorem dX8_granted_0 : decode cX8_granted 0 = .ok (.aload_n 0, 1) := by decide +kernel
theorem dX8_granted_1 : decode cX8_granted 1 = .ok (.iload_n 1, 1) := by decide +kernel
theorem dX8_granted_2 : decode cX8_granted 2 = .ok (.putfield 45, 3) := by decide +kernel
theorem dX8_granted_5 : decode cX8_granted 5 = .ok (.aload_n 0, 1) := by decide +kernel
theorem dX8_granted_6 : decode cX8_granted 6 = .ok (.iconst (-1), 1) := by decide +kernel
theorem dX8_granted_7 : decode cX8_granted 7 = .ok (.putfield 9, 3) := by decide +kernel
theorem dX8_granted_10 : decode cX8_granted 10 = .ok (.iload_n 1, 1) := by decide +kernel
theorem dX8_granted_11 : decode cX8_granted 11 = .ok (.ifCond .ne 7, 3) := by decide +kernel
theorem dX8_granted_14 : decode cX8_granted 14 = .ok (.iconst 1, 1) := by decide +kernel
theorem dX8_granted_15 : decode cX8_granted 15 = .ok (.goto 4, 3) := by decide +kernel
theorem dX8_granted_18 : decode cX8_granted 18 = .ok (.iconst 0, 1) := by decide +kernel
theorem dX8_granted_19 : decode cX8_granted 19 = .ok (.ireturn, 1) := by decide +kernel
theorem dX8_in_0 : decode cX8_in 0 = .ok (.iload_n 0, 1) := by decide +kernel
theorem dX8_in_1 : decode cX8_in 1 = .ok (.iload_n 1, 1) := by decide +kernel
theorem dX8_in_2 : decode cX8_in 2 = .ok (.if_icmp .lt 12, 3) := by decide +kernel
theorem dX8_in_5 : decode cX8_in 5 = .ok (.iload_n 0, 1) := by decide +kernel
theorem dX8_in_6 : decode cX8_in 6 = .ok (.iload_n 2, 1) := by decide +kernel
theorem dX8_in_7 : decode cX8_in 7 = .ok (.if_icmp .gt 7, 3) := by decide +kernel
theorem dX8_in_10 : decode cX8_in 10 = .ok (.iconst 1, 1) := by decide +kernel
theorem dX8_in_11 : decode cX8_in 11 = .ok (.goto 4, 3) := by decide +kernel
theorem dX8_in_14 : decode cX8_in 14 = .ok (.iconst 0, 1) := by decide +kernel
theorem dX8_in_15 : decode cX8_in 15 = .ok (.ireturn, 1) := by decide +kernel
theorem dX8_feed_0 : decode cX8_feed 0 = .ok (.aload_n 0, 1) := by decide +kernel
theorem dX8_feed_1 : decode cX8_feed 1 = .ok (.iconst 0, 1) := by decide +kernel
theorem dX8_feed_2 : decode cX8_feed 2 = .ok (.putfield 42, 3) := by decide +kernel
theorem dX8_feed_5 : decode cX8_feed 5 = .ok (.aload_n 0, 1) := by decide +kernel
theorem dX8_feed_6 : decode cX8_feed 6 = .ok (.getfield 48, 3) := by decide +kernel
theorem dX8_feed_9 : decode cX8_feed 9 = .ok (.bipush 20, 2) := by decide +kernel
theorem dX8_feed_11 : decode cX8_feed 11 = .ok (.iadd, 1) := by decide +kernel
theorem dX8_feed_12 : decode cX8_feed 12 = .ok (.sipush 600, 3) := by decide +kernel
theorem dX8_feed_15 : decode cX8_feed 15 = .ok (.if_icmp .le 5, 3) := by decide +kernel
theorem dX8_feed_18 : decode cX8_feed 18 = .ok (.iconst (-1), 1) := by decide +kernel
theorem dX8_feed_19 : decode cX8_feed 19 = .ok (.ireturn, 1) := by decide +kernel
theorem dX8_feed_20 : decode cX8_feed 20 = .ok (.iconst 0, 1) := by decide +kernel
theorem dX8_feed_21 : decode cX8_feed 21 = .ok (.istore 6, 2) := by decide +kernel
theorem dX8_feed_23 : decode cX8_feed 23 = .ok (.iload 6, 2) := by decide +kernel
theorem dX8_feed_25 : decode cX8_feed 25 = .ok (.bipush 20, 2) := by decide +kernel
theorem dX8_feed_27 : decode cX8_feed 27 = .ok (.if_icmp .ge 86, 3) := by decide +kernel
theorem dX8_feed_30 : decode cX8_feed 30 = .ok (.iload 6, 2) := by decide +kernel
theorem dX8_feed_32 : decode cX8_feed 32 = .ok (.iconst 4, 1) := by decide +kernel
theorem dX8_feed_33 : decode cX8_feed 33 = .ok (.if_icmp .ge 7, 3) := by decide +kernel
theorem dX8_feed_36 : decode cX8_feed 36 = .ok (.iload_n 1, 1) := by decide +kernel
theorem dX8_feed_37 : decode cX8_feed 37 = .ok (.goto 39, 3) := by decide +kernel
theorem dX8_feed_40 : decode cX8_feed 40 = .ok (.iload 6, 2) := by decide +kernel
theorem dX8_feed_42 : decode cX8_feed 42 = .ok (.bipush 8, 2) := by decide +kernel
theorem dX8_feed_44 : decode cX8_feed 44 = .ok (.if_icmp .ge 7, 3) := by decide +kernel
theorem dX8_feed_47 : decode cX8_feed 47 = .ok (.iload_n 2, 1) := by decide +kernel
theorem dX8_feed_48 : decode cX8_feed 48 = .ok (.goto 28, 3) := by decide +kernel
theorem dX8_feed_51 : decode cX8_feed 51 = .ok (.iload 6, 2) := by decide +kernel
theorem dX8_feed_53 : decode cX8_feed 53 = .ok (.bipush 12, 2) := by decide +kernel
theorem dX8_feed_55 : decode cX8_feed 55 = .ok (.if_icmp .ge 7, 3) := by decide +kernel
theorem dX8_feed_58 : decode cX8_feed 58 = .ok (.iload_n 3, 1) := by decide +kernel
theorem dX8_feed_59 : decode cX8_feed 59 = .ok (.goto 17, 3) := by decide +kernel
theorem dX8_feed_62 : decode cX8_feed 62 = .ok (.iload 6, 2) := by decide +kernel
theorem dX8_feed_64 : decode cX8_feed 64 = .ok (.bipush 16, 2) := by decide +kernel
theorem dX8_feed_66 : decode cX8_feed 66 = .ok (.if_icmp .ge 8, 3) := by decide +kernel
theorem dX8_feed_69 : decode cX8_feed 69 = .ok (.iload 4, 2) := by decide +kernel
theorem dX8_feed_71 : decode cX8_feed 71 = .ok (.goto 5, 3) := by decide +kernel
theorem dX8_feed_74 : decode cX8_feed 74 = .ok (.iload 5, 2) := by decide +kernel
theorem dX8_feed_76 : decode cX8_feed 76 = .ok (.istore 7, 2) := by decide +kernel
theorem dX8_feed_78 : decode cX8_feed 78 = .ok (.aload_n 0, 1) := by decide +kernel
theorem dX8_feed_79 : decode cX8_feed 79 = .ok (.getfield 13, 3) := by decide +kernel
theorem dX8_feed_82 : decode cX8_feed 82 = .ok (.aload_n 0, 1) := by decide +kernel
theorem dX8_feed_83 : decode cX8_feed 83 = .ok (.getfield 48, 3) := by decide +kernel
theorem dX8_feed_86 : decode cX8_feed 86 = .ok (.iload 6, 2) := by decide +kernel
theorem dX8_feed_88 : decode cX8_feed 88 = .ok (.iadd, 1) := by decide +kernel
theorem dX8_feed_89 : decode cX8_feed 89 = .ok (.iload 7, 2) := by decide +kernel
theorem dX8_feed_91 : decode cX8_feed 91 = .ok (.bipush 24, 2) := by decide +kernel
theorem dX8_feed_93 : decode cX8_feed 93 = .ok (.bipush 8, 2) := by decide +kernel
theorem dX8_feed_95 : decode cX8_feed 95 = .ok (.iload 6, 2) := by decide +kernel
theorem dX8_feed_97 : decode cX8_feed 97 = .ok (.iconst 4, 1) := by decide +kernel
theorem dX8_feed_98 : decode cX8_feed 98 = .ok (.irem, 1) := by decide +kernel
theorem dX8_feed_99 : decode cX8_feed 99 = .ok (.imul, 1) := by decide +kernel
theorem dX8_feed_100 : decode cX8_feed 100 = .ok (.isub, 1) := by decide +kernel
theorem dX8_feed_101 : decode cX8_feed 101 = .ok (.ishr, 1) := by decide +kernel
theorem dX8_feed_102 : decode cX8_feed 102 = .ok (.sipush 255, 3) := by decide +kernel
theorem dX8_feed_105 : decode cX8_feed 105 = .ok (.iand, 1) := by decide +kernel
theorem dX8_feed_106 : decode cX8_feed 106 = .ok (.iastore, 1) := by decide +kernel
theorem dX8_feed_107 : decode cX8_feed 107 = .ok (.iinc 6 1, 3) := by decide +kernel
theorem dX8_feed_110 : decode cX8_feed 110 = .ok (.goto (-87), 3) := by decide +kernel
theorem dX8_feed_113 : decode cX8_feed 113 = .ok (.aload_n 0, 1) := by decide +kernel
theorem dX8_feed_114 : decode cX8_feed 114 = .ok (.dup, 1) := by decide +kernel
theorem dX8_feed_115 : decode cX8_feed 115 = .ok (.getfield 48, 3) := by decide +kernel
theorem dX8_feed_118 : decode cX8_feed 118 = .ok (.bipush 20, 2) := by decide +kernel
theorem dX8_feed_120 : decode cX8_feed 120 = .ok (.iadd, 1) := by decide +kernel
theorem dX8_feed_121 : decode cX8_feed 121 = .ok (.putfield 48, 3) := by decide +kernel
theorem dX8_feed_124 : decode cX8_feed 124 = .ok (.aload_n 0, 1) := by decide +kernel
theorem dX8_feed_125 : decode cX8_feed 125 = .ok (.getfield 48, 3) := by decide +kernel
theorem dX8_feed_128 : decode cX8_feed 128 = .ok (.ireturn, 1) := by decide +kernel
theorem dX8_flaw_0 : decode cX8_flaw 0 = .ok (.aload_n 0, 1) := by decide +kernel
theorem dX8_flaw_1 : decode cX8_flaw 1 = .ok (.getfield 51, 3) := by decide +kernel
theorem dX8_flaw_4 : decode cX8_flaw 4 = .ok (.ifCond .le 4, 3) := by decide +kernel
theorem dX8_flaw_7 : decode cX8_flaw 7 = .ok (.return_, 1) := by decide +kernel
theorem dX8_flaw_8 : decode cX8_flaw 8 = .ok (.aload_n 0, 1) := by decide +kernel
theorem dX8_flaw_9 : decode cX8_flaw 9 = .ok (.iload_n 1, 1) := by decide +kernel
theorem dX8_flaw_10 : decode cX8_flaw 10 = .ok (.putfield 51, 3) := by decide +kernel
theorem dX8_flaw_13 : decode cX8_flaw 13 = .ok (.aload_n 0, 1) := by decide +kernel
theorem dX8_flaw_14 : decode cX8_flaw 14 = .ok (.aload_n 0, 1) := by decide +kernel
theorem dX8_flaw_15 : decode cX8_flaw 15 = .ok (.getfield 54, 3) := by decide +kernel
theorem dX8_flaw_18 : decode cX8_flaw 18 = .ok (.putfield 57, 3) := by decide +kernel
theorem dX8_flaw_21 : decode cX8_flaw 21 = .ok (.return_, 1) := by decide +kernel
theorem dX8_isLetterAt_0 : decode cX8_isLetterAt 0 = .ok (.iload_n 1, 1) := by decide +kernel
theorem dX8_isLetterAt_1 : decode cX8_isLetterAt 1 = .ok (.aload_n 0, 1) := by decide +kernel
theorem dX8_isLetterAt_2 : decode cX8_isLetterAt 2 = .ok (.getfield 60, 3) := by decide +kernel
theorem dX8_isLetterAt_5 : decode cX8_isLetterAt 5 = .ok (.if_icmp .ge 23, 3) := by decide +kernel
theorem dX8_isLetterAt_8 : decode cX8_isLetterAt 8 = .ok (.aload_n 0, 1) := by decide +kernel
theorem dX8_isLetterAt_9 : decode cX8_isLetterAt 9 = .ok (.getfield 13, 3) := by decide +kernel
theorem dX8_isLetterAt_12 : decode cX8_isLetterAt 12 = .ok (.iload_n 1, 1) := by decide +kernel
theorem dX8_isLetterAt_13 : decode cX8_isLetterAt 13 = .ok (.iaload, 1) := by decide +kernel
theorem dX8_isLetterAt_14 : decode cX8_isLetterAt 14 = .ok (.bipush 97, 2) := by decide +kernel
theorem dX8_isLetterAt_16 : decode cX8_isLetterAt 16 = .ok (.bipush 122, 2) := by decide +kernel
theorem dX8_isLetterAt_18 : decode cX8_isLetterAt 18 = .ok (.invokestatic 63, 3) := by decide +kernel
theorem dX8_isLetterAt_21 : decode cX8_isLetterAt 21 = .ok (.ifCond .eq 7, 3) := by decide +kernel
theorem dX8_isLetterAt_24 : decode cX8_isLetterAt 24 = .ok (.iconst 1, 1) := by decide +kernel
theorem dX8_isLetterAt_25 : decode cX8_isLetterAt 25 = .ok (.goto 4, 3) := by decide +kernel
theorem dX8_isLetterAt_28 : decode cX8_isLetterAt 28 = .ok (.iconst 0, 1) := by decide +kernel
theorem dX8_isLetterAt_29 : decode cX8_isLetterAt 29 = .ok (.ireturn, 1) := by decide +kernel
theorem dX8_isDigitAt_0 : decode cX8_isDigitAt 0 = .ok (.iload_n 1, 1) := by decide +kernel
theorem dX8_isDigitAt_1 : decode cX8_isDigitAt 1 = .ok (.aload_n 0, 1) := by decide +kernel
theorem dX8_isDigitAt_2 : decode cX8_isDigitAt 2 = .ok (.getfield 60, 3) := by decide +kernel
theorem dX8_isDigitAt_5 : decode cX8_isDigitAt 5 = .ok (.if_icmp .ge 23, 3) := by decide +kernel
theorem dX8_isDigitAt_8 : decode cX8_isDigitAt 8 = .ok (.aload_n 0, 1) := by decide +kernel
theorem dX8_isDigitAt_9 : decode cX8_isDigitAt 9 = .ok (.getfield 13, 3) := by decide +kernel
theorem dX8_isDigitAt_12 : decode cX8_isDigitAt 12 = .ok (.iload_n 1, 1) := by decide +kernel
theorem dX8_isDigitAt_13 : decode cX8_isDigitAt 13 = .ok (.iaload, 1) := by decide +kernel
theorem dX8_isDigitAt_14 : decode cX8_isDigitAt 14 = .ok (.bipush 48, 2) := by decide +kernel
theorem dX8_isDigitAt_16 : decode cX8_isDigitAt 16 = .ok (.bipush 57, 2) := by decide +kernel
theorem dX8_isDigitAt_18 : decode cX8_isDigitAt 18 = .ok (.invokestatic 63, 3) := by decide +kernel
theorem dX8_isDigitAt_21 : decode cX8_isDigitAt 21 = .ok (.ifCond .eq 7, 3) := by decide +kernel
theorem dX8_isDigitAt_24 : decode cX8_isDigitAt 24 = .ok (.iconst 1, 1) := by decide +kernel
theorem dX8_isDigitAt_25 : decode cX8_isDigitAt 25 = .ok (.goto 4, 3) := by decide +kernel
theorem dX8_isDigitAt_28 : decode cX8_isDigitAt 28 = .ok (.iconst 0, 1) := by decide +kernel
theorem dX8_isDigitAt_29 : decode cX8_isDigitAt 29 = .ok (.ireturn, 1) := by decide +kernel
theorem dX8_goOn_0 : decode cX8_goOn 0 = .ok (.aload_n 0, 1) := by decide +kernel
theorem dX8_goOn_1 : decode cX8_goOn 1 = .ok (.getfield 51, 3) := by decide +kernel
theorem dX8_goOn_4 : decode cX8_goOn 4 = .ok (.ifCond .le 4, 3) := by decide +kernel
theorem dX8_goOn_7 : decode cX8_goOn 7 = .ok (.return_, 1) := by decide +kernel
theorem dX8_goOn_8 : decode cX8_goOn 8 = .ok (.aload_n 0, 1) := by decide +kernel
theorem dX8_goOn_9 : decode cX8_goOn 9 = .ok (.getfield 67, 3) := by decide +kernel
theorem dX8_goOn_12 : decode cX8_goOn 12 = .ok (.aload_n 0, 1) := by decide +kernel
theorem dX8_goOn_13 : decode cX8_goOn 13 = .ok (.getfield 60, 3) := by decide +kernel
theorem dX8_goOn_16 : decode cX8_goOn 16 = .ok (.if_icmp .ge 30, 3) := by decide +kernel
theorem dX8_goOn_19 : decode cX8_goOn 19 = .ok (.aload_n 0, 1) := by decide +kernel
theorem dX8_goOn_20 : decode cX8_goOn 20 = .ok (.getfield 13, 3) := by decide +kernel
theorem dX8_goOn_23 : decode cX8_goOn 23 = .ok (.aload_n 0, 1) := by decide +kernel
theorem dX8_goOn_24 : decode cX8_goOn 24 = .ok (.getfield 67, 3) := by decide +kernel
theorem dX8_goOn_27 : decode cX8_goOn 27 = .ok (.iaload, 1) := by decide +kernel
theorem dX8_goOn_28 : decode cX8_goOn 28 = .ok (.bipush 32, 2) := by decide +kernel
theorem dX8_goOn_30 : decode cX8_goOn 30 = .ok (.if_icmp .ne 16, 3) := by decide +kernel
theorem dX8_goOn_33 : decode cX8_goOn 33 = .ok (.aload_n 0, 1) := by decide +kernel
theorem dX8_goOn_34 : decode cX8_goOn 34 = .ok (.dup, 1) := by decide +kernel
theorem dX8_goOn_35 : decode cX8_goOn 35 = .ok (.getfield 67, 3) := by decide +kernel
theorem dX8_goOn_38 : decode cX8_goOn 38 = .ok (.iconst 1, 1) := by decide +kernel
theorem dX8_goOn_39 : decode cX8_goOn 39 = .ok (.iadd, 1) := by decide +kernel
theorem dX8_goOn_40 : decode cX8_goOn 40 = .ok (.putfield 67, 3) := by decide +kernel
theorem dX8_goOn_43 : decode cX8_goOn 43 = .ok (.goto (-35), 3) := by decide +kernel
theorem dX8_goOn_46 : decode cX8_goOn 46 = .ok (.aload_n 0, 1) := by decide +kernel
theorem dX8_goOn_47 : decode cX8_goOn 47 = .ok (.aload_n 0, 1) := by decide +kernel
theorem dX8_goOn_48 : decode cX8_goOn 48 = .ok (.getfield 67, 3) := by decide +kernel
theorem dX8_goOn_51 : decode cX8_goOn 51 = .ok (.putfield 54, 3) := by decide +kernel
theorem dX8_goOn_54 : decode cX8_goOn 54 = .ok (.aload_n 0, 1) := by decide +kernel
theorem dX8_goOn_55 : decode cX8_goOn 55 = .ok (.getfield 67, 3) := by decide +kernel
theorem dX8_goOn_58 : decode cX8_goOn 58 = .ok (.aload_n 0, 1) := by decide +kernel
theorem dX8_goOn_59 : decode cX8_goOn 59 = .ok (.getfield 60, 3) := by decide +kernel
theorem dX8_goOn_62 : decode cX8_goOn 62 = .ok (.if_icmp .ne 11, 3) := by decide +kernel
theorem dX8_goOn_65 : decode cX8_goOn 65 = .ok (.aload_n 0, 1) := by decide +kernel
theorem dX8_goOn_66 : decode cX8_goOn 66 = .ok (.iconst 1, 1) := by decide +kernel
theorem dX8_goOn_67 : decode cX8_goOn 67 = .ok (.putfield 70, 3) := by decide +kernel
theorem dX8_goOn_70 : decode cX8_goOn 70 = .ok (.goto 232, 3) := by decide +kernel
theorem dX8_goOn_73 : decode cX8_goOn 73 = .ok (.aload_n 0, 1) := by decide +kernel
theorem dX8_goOn_74 : decode cX8_goOn 74 = .ok (.aload_n 0, 1) := by decide +kernel
theorem dX8_goOn_75 : decode cX8_goOn 75 = .ok (.getfield 67, 3) := by decide +kernel
theorem dX8_goOn_78 : decode cX8_goOn 78 = .ok (.invokevirtual 73, 3) := by decide +kernel
theorem dX8_goOn_81 : decode cX8_goOn 81 = .ok (.ifCond .eq 101, 3) := by decide +kernel
theorem dX8_goOn_84 : decode cX8_goOn 84 = .ok (.aload_n 0, 1) := by decide +kernel
theorem dX8_goOn_85 : decode cX8_goOn 85 = .ok (.lconst 0, 1) := by decide +kernel
theorem dX8_goOn_86 : decode cX8_goOn 86 = .ok (.putfield 77, 3) := by decide +kernel
theorem dX8_goOn_89 : decode cX8_goOn 89 = .ok (.aload_n 0, 1) := by decide +kernel
theorem dX8_goOn_90 : decode cX8_goOn 90 = .ok (.aload_n 0, 1) := by decide +kernel
theorem dX8_goOn_91 : decode cX8_goOn 91 = .ok (.getfield 67, 3) := by decide +kernel
theorem dX8_goOn_94 : decode cX8_goOn 94 = .ok (.invokevirtual 73, 3) := by decide +kernel
theorem dX8_goOn_97 : decode cX8_goOn 97 = .ok (.ifCond .eq 59, 3) := by decide +kernel
theorem dX8_goOn_100 : decode cX8_goOn 100 = .ok (.aload_n 0, 1) := by decide +kernel
theorem dX8_goOn_101 : decode cX8_goOn 101 = .ok (.getfield 67, 3) := by decide +kernel
theorem dX8_goOn_104 : decode cX8_goOn 104 = .ok (.aload_n 0, 1) := by decide +kernel
theorem dX8_goOn_105 : decode cX8_goOn 105 = .ok (.getfield 54, 3) := by decide +kernel
theorem dX8_goOn_108 : decode cX8_goOn 108 = .ok (.isub, 1) := by decide +kernel
theorem dX8_goOn_109 : decode cX8_goOn 109 = .ok (.bipush 6, 2) := by decide +kernel
theorem dX8_goOn_111 : decode cX8_goOn 111 = .ok (.if_icmp .ge 32, 3) := by decide +kernel
theorem dX8_goOn_114 : decode cX8_goOn 114 = .ok (.aload_n 0, 1) := by decide +kernel
theorem dX8_goOn_115 : decode cX8_goOn 115 = .ok (.aload_n 0, 1) := by decide +kernel
theorem dX8_goOn_116 : decode cX8_goOn 116 = .ok (.getfield 77, 3) := by decide +kernel
theorem dX8_goOn_119 : decode cX8_goOn 119 = .ok (.ldc2_w 81, 3) := by decide +kernel
theorem dX8_goOn_122 : decode cX8_goOn 122 = .ok (.lmul, 1) := by decide +kernel
theorem dX8_goOn_123 : decode cX8_goOn 123 = .ok (.aload_n 0, 1) := by decide +kernel
theorem dX8_goOn_124 : decode cX8_goOn 124 = .ok (.getfield 13, 3) := by decide +kernel
theorem dX8_goOn_127 : decode cX8_goOn 127 = .ok (.aload_n 0, 1) := by decide +kernel
theorem dX8_goOn_128 : decode cX8_goOn 128 = .ok (.getfield 67, 3) := by decide +kernel
theorem dX8_goOn_131 : decode cX8_goOn 131 = .ok (.iaload, 1) := by decide +kernel
theorem dX8_goOn_132 : decode cX8_goOn 132 = .ok (.i2l, 1) := by decide +kernel
theorem dX8_goOn_133 : decode cX8_goOn 133 = .ok (.ladd, 1) := by decide +kernel
theorem dX8_goOn_134 : decode cX8_goOn 134 = .ok (.ldc2_w 83, 3) := by decide +kernel
theorem dX8_goOn_137 : decode cX8_goOn 137 = .ok (.lsub, 1) := by decide +kernel
theorem dX8_goOn_138 : decode cX8_goOn 138 = .ok (.lconst 1, 1) := by decide +kernel
theorem dX8_goOn_139 : decode cX8_goOn 139 = .ok (.ladd, 1) := by decide +kernel
theorem dX8_goOn_140 : decode cX8_goOn 140 = .ok (.putfield 77, 3) := by decide +kernel
theorem dX8_goOn_143 : decode cX8_goOn 143 = .ok (.aload_n 0, 1) := by decide +kernel
theorem dX8_goOn_144 : decode cX8_goOn 144 = .ok (.dup, 1) := by decide +kernel
theorem dX8_goOn_145 : decode cX8_goOn 145 = .ok (.getfield 67, 3) := by decide +kernel
theorem dX8_goOn_148 : decode cX8_goOn 148 = .ok (.iconst 1, 1) := by decide +kernel
theorem dX8_goOn_149 : decode cX8_goOn 149 = .ok (.iadd, 1) := by decide +kernel
theorem dX8_goOn_150 : decode cX8_goOn 150 = .ok (.putfield 67, 3) := by decide +kernel
theorem dX8_goOn_153 : decode cX8_goOn 153 = .ok (.goto (-64), 3) := by decide +kernel
theorem dX8_goOn_156 : decode cX8_goOn 156 = .ok (.aload_n 0, 1) := by decide +kernel
theorem dX8_goOn_157 : decode cX8_goOn 157 = .ok (.aload_n 0, 1) := by decide +kernel
theorem dX8_goOn_158 : decode cX8_goOn 158 = .ok (.getfield 67, 3) := by decide +kernel
theorem dX8_goOn_161 : decode cX8_goOn 161 = .ok (.aload_n 0, 1) := by decide +kernel
theorem dX8_goOn_162 : decode cX8_goOn 162 = .ok (.getfield 54, 3) := by decide +kernel
theorem dX8_goOn_165 : decode cX8_goOn 165 = .ok (.isub, 1) := by decide +kernel
theorem dX8_goOn_166 : decode cX8_goOn 166 = .ok (.bipush 6, 2) := by decide +kernel
theorem dX8_goOn_168 : decode cX8_goOn 168 = .ok (.if_icmp .le 7, 3) := by decide +kernel
theorem dX8_goOn_171 : decode cX8_goOn 171 = .ok (.iconst 0, 1) := by decide +kernel
theorem dX8_goOn_172 : decode cX8_goOn 172 = .ok (.goto 4, 3) := by decide +kernel
theorem dX8_goOn_175 : decode cX8_goOn 175 = .ok (.iconst 2, 1) := by decide +kernel
theorem dX8_goOn_176 : decode cX8_goOn 176 = .ok (.putfield 70, 3) := by decide +kernel
theorem dX8_goOn_179 : decode cX8_goOn 179 = .ok (.goto 123, 3) := by decide +kernel
theorem dX8_goOn_182 : decode cX8_goOn 182 = .ok (.aload_n 0, 1) := by decide +kernel
theorem dX8_goOn_183 : decode cX8_goOn 183 = .ok (.aload_n 0, 1) := by decide +kernel
theorem dX8_goOn_184 : decode cX8_goOn 184 = .ok (.getfield 67, 3) := by decide +kernel
theorem dX8_goOn_187 : decode cX8_goOn 187 = .ok (.invokevirtual 85, 3) := by decide +kernel
theorem dX8_goOn_190 : decode cX8_goOn 190 = .ok (.ifCond .eq 53, 3) := by decide +kernel
theorem dX8_goOn_193 : decode cX8_goOn 193 = .ok (.aload_n 0, 1) := by decide +kernel
theorem dX8_goOn_194 : decode cX8_goOn 194 = .ok (.aload_n 0, 1) := by decide +kernel
theorem dX8_goOn_195 : decode cX8_goOn 195 = .ok (.getfield 67, 3) := by decide +kernel
theorem dX8_goOn_198 : decode cX8_goOn 198 = .ok (.invokevirtual 85, 3) := by decide +kernel
theorem dX8_goOn_201 : decode cX8_goOn 201 = .ok (.ifCond .eq 16, 3) := by decide +kernel
theorem dX8_goOn_204 : decode cX8_goOn 204 = .ok (.aload_n 0, 1) := by decide +kernel
theorem dX8_goOn_205 : decode cX8_goOn 205 = .ok (.dup, 1) := by decide +kernel
theorem dX8_goOn_206 : decode cX8_goOn 206 = .ok (.getfield 67, 3) := by decide +kernel
theorem dX8_goOn_209 : decode cX8_goOn 209 = .ok (.iconst 1, 1) := by decide +kernel
theorem dX8_goOn_210 : decode cX8_goOn 210 = .ok (.iadd, 1) := by decide +kernel
theorem dX8_goOn_211 : decode cX8_goOn 211 = .ok (.putfield 67, 3) := by decide +kernel
theorem dX8_goOn_214 : decode cX8_goOn 214 = .ok (.goto (-21), 3) := by decide +kernel
theorem dX8_goOn_217 : decode cX8_goOn 217 = .ok (.aload_n 0, 1) := by decide +kernel
theorem dX8_goOn_218 : decode cX8_goOn 218 = .ok (.aload_n 0, 1) := by decide +kernel
theorem dX8_goOn_219 : decode cX8_goOn 219 = .ok (.getfield 67, 3) := by decide +kernel
theorem dX8_goOn_222 : decode cX8_goOn 222 = .ok (.aload_n 0, 1) := by decide +kernel
theorem dX8_goOn_223 : decode cX8_goOn 223 = .ok (.getfield 54, 3) := by decide +kernel
theorem dX8_goOn_226 : decode cX8_goOn 226 = .ok (.isub, 1) := by decide +kernel
theorem dX8_goOn_227 : decode cX8_goOn 227 = .ok (.bipush 8, 2) := by decide +kernel
theorem dX8_goOn_229 : decode cX8_goOn 229 = .ok (.if_icmp .le 7, 3) := by decide +kernel
theorem dX8_goOn_232 : decode cX8_goOn 232 = .ok (.iconst 0, 1) := by decide +kernel
theorem dX8_goOn_233 : decode cX8_goOn 233 = .ok (.goto 4, 3) := by decide +kernel
theorem dX8_goOn_236 : decode cX8_goOn 236 = .ok (.iconst 3, 1) := by decide +kernel
theorem dX8_goOn_237 : decode cX8_goOn 237 = .ok (.putfield 70, 3) := by decide +kernel
theorem dX8_goOn_240 : decode cX8_goOn 240 = .ok (.goto 62, 3) := by decide +kernel
theorem dX8_goOn_243 : decode cX8_goOn 243 = .ok (.aload_n 0, 1) := by decide +kernel
theorem dX8_goOn_244 : decode cX8_goOn 244 = .ok (.aload_n 0, 1) := by decide +kernel
theorem dX8_goOn_245 : decode cX8_goOn 245 = .ok (.getfield 13, 3) := by decide +kernel
theorem dX8_goOn_248 : decode cX8_goOn 248 = .ok (.aload_n 0, 1) := by decide +kernel
theorem dX8_goOn_249 : decode cX8_goOn 249 = .ok (.getfield 67, 3) := by decide +kernel
theorem dX8_goOn_252 : decode cX8_goOn 252 = .ok (.iaload, 1) := by decide +kernel
theorem dX8_goOn_253 : decode cX8_goOn 253 = .ok (.putfield 88, 3) := by decide +kernel
theorem dX8_goOn_256 : decode cX8_goOn 256 = .ok (.aload_n 0, 1) := by decide +kernel
theorem dX8_goOn_257 : decode cX8_goOn 257 = .ok (.aload_n 0, 1) := by decide +kernel
theorem dX8_goOn_258 : decode cX8_goOn 258 = .ok (.getfield 88, 3) := by decide +kernel
theorem dX8_goOn_261 : decode cX8_goOn 261 = .ok (.bipush 59, 2) := by decide +kernel
theorem dX8_goOn_263 : decode cX8_goOn 263 = .ok (.if_icmp .eq 21, 3) := by decide +kernel
theorem dX8_goOn_266 : decode cX8_goOn 266 = .ok (.aload_n 0, 1) := by decide +kernel
theorem dX8_goOn_267 : decode cX8_goOn 267 = .ok (.getfield 88, 3) := by decide +kernel
theorem dX8_goOn_270 : decode cX8_goOn 270 = .ok (.bipush 44, 2) := by decide +kernel
theorem dX8_goOn_272 : decode cX8_goOn 272 = .ok (.if_icmp .eq 12, 3) := by decide +kernel
theorem dX8_goOn_275 : decode cX8_goOn 275 = .ok (.aload_n 0, 1) := by decide +kernel
theorem dX8_goOn_276 : decode cX8_goOn 276 = .ok (.getfield 88, 3) := by decide +kernel
theorem dX8_goOn_279 : decode cX8_goOn 279 = .ok (.bipush 58, 2) := by decide +kernel
theorem dX8_goOn_281 : decode cX8_goOn 281 = .ok (.if_icmp .ne 7, 3) := by decide +kernel
theorem dX8_goOn_284 : decode cX8_goOn 284 = .ok (.iconst 4, 1) := by decide +kernel
theorem dX8_goOn_285 : decode cX8_goOn 285 = .ok (.goto 4, 3) := by decide +kernel
theorem dX8_goOn_288 : decode cX8_goOn 288 = .ok (.iconst 0, 1) := by decide +kernel
theorem dX8_goOn_289 : decode cX8_goOn 289 = .ok (.putfield 70, 3) := by decide +kernel
theorem dX8_goOn_292 : decode cX8_goOn 292 = .ok (.aload_n 0, 1) := by decide +kernel
theorem dX8_goOn_293 : decode cX8_goOn 293 = .ok (.dup, 1) := by decide +kernel
theorem dX8_goOn_294 : decode cX8_goOn 294 = .ok (.getfield 67, 3) := by decide +kernel
theorem dX8_goOn_297 : decode cX8_goOn 297 = .ok (.iconst 1, 1) := by decide +kernel
theorem dX8_goOn_298 : decode cX8_goOn 298 = .ok (.iadd, 1) := by decide +kernel
theorem dX8_goOn_299 : decode cX8_goOn 299 = .ok (.putfield 67, 3) := by decide +kernel
theorem dX8_goOn_302 : decode cX8_goOn 302 = .ok (.return_, 1) := by decide +kernel
theorem dX8_wordOf_0 : decode cX8_wordOf 0 = .ok (.lconst 0, 1) := by decide +kernel
theorem dX8_wordOf_1 : decode cX8_wordOf 1 = .ok (.lstore_n 1, 1) := by decide +kernel
theorem dX8_wordOf_2 : decode cX8_wordOf 2 = .ok (.iconst 0, 1) := by decide +kernel
theorem dX8_wordOf_3 : decode cX8_wordOf 3 = .ok (.istore_n 3, 1) := by decide +kernel
theorem dX8_wordOf_4 : decode cX8_wordOf 4 = .ok (.iload_n 3, 1) := by decide +kernel
theorem dX8_wordOf_5 : decode cX8_wordOf 5 = .ok (.aload_n 0, 1) := by decide +kernel
theorem dX8_wordOf_6 : decode cX8_wordOf 6 = .ok (.invokevirtual 91, 3) := by decide +kernel
theorem dX8_wordOf_9 : decode cX8_wordOf 9 = .ok (.if_icmp .ge 28, 3) := by decide +kernel
theorem dX8_wordOf_12 : decode cX8_wordOf 12 = .ok (.lload_n 1, 1) := by decide +kernel
theorem dX8_wordOf_13 : decode cX8_wordOf 13 = .ok (.ldc2_w 81, 3) := by decide +kernel
theorem dX8_wordOf_16 : decode cX8_wordOf 16 = .ok (.lmul, 1) := by decide +kernel
theorem dX8_wordOf_17 : decode cX8_wordOf 17 = .ok (.aload_n 0, 1) := by decide +kernel
theorem dX8_wordOf_18 : decode cX8_wordOf 18 = .ok (.iload_n 3, 1) := by decide +kernel
theorem dX8_wordOf_19 : decode cX8_wordOf 19 = .ok (.invokevirtual 97, 3) := by decide +kernel
theorem dX8_wordOf_22 : decode cX8_wordOf 22 = .ok (.i2l, 1) := by decide +kernel
theorem dX8_wordOf_23 : decode cX8_wordOf 23 = .ok (.ladd, 1) := by decide +kernel
theorem dX8_wordOf_24 : decode cX8_wordOf 24 = .ok (.ldc2_w 83, 3) := by decide +kernel
theorem dX8_wordOf_27 : decode cX8_wordOf 27 = .ok (.lsub, 1) := by decide +kernel
theorem dX8_wordOf_28 : decode cX8_wordOf 28 = .ok (.lconst 1, 1) := by decide +kernel
theorem dX8_wordOf_29 : decode cX8_wordOf 29 = .ok (.ladd, 1) := by decide +kernel
theorem dX8_wordOf_30 : decode cX8_wordOf 30 = .ok (.lstore_n 1, 1) := by decide +kernel
theorem dX8_wordOf_31 : decode cX8_wordOf 31 = .ok (.iinc 3 1, 3) := by decide +kernel
theorem dX8_wordOf_34 : decode cX8_wordOf 34 = .ok (.goto (-30), 3) := by decide +kernel
theorem dX8_wordOf_37 : decode cX8_wordOf 37 = .ok (.lload_n 1, 1) := by decide +kernel
theorem dX8_wordOf_38 : decode cX8_wordOf 38 = .ok (.lreturn, 1) := by decide +kernel
theorem dX8_isWord_0 : decode cX8_isWord 0 = .ok (.aload_n 0, 1) := by decide +kernel
theorem dX8_isWord_1 : decode cX8_isWord 1 = .ok (.getfield 51, 3) := by decide +kernel
theorem dX8_isWord_4 : decode cX8_isWord 4 = .ok (.ifCond .ne 27, 3) := by decide +kernel
theorem dX8_isWord_7 : decode cX8_isWord 7 = .ok (.aload_n 0, 1) := by decide +kernel
theorem dX8_isWord_8 : decode cX8_isWord 8 = .ok (.getfield 70, 3) := by decide +kernel
theorem dX8_isWord_11 : decode cX8_isWord 11 = .ok (.iconst 2, 1) := by decide +kernel
theorem dX8_isWord_12 : decode cX8_isWord 12 = .ok (.if_icmp .ne 19, 3) := by decide +kernel
theorem dX8_isWord_15 : decode cX8_isWord 15 = .ok (.aload_n 0, 1) := by decide +kernel
theorem dX8_isWord_16 : decode cX8_isWord 16 = .ok (.getfield 77, 3) := by decide +kernel
theorem dX8_isWord_19 : decode cX8_isWord 19 = .ok (.aload_n 1, 1) := by decide +kernel
theorem dX8_isWord_20 : decode cX8_isWord 20 = .ok (.invokestatic 101, 3) := by decide +kernel
theorem dX8_isWord_23 : decode cX8_isWord 23 = .ok (.lcmp, 1) := by decide +kernel
theorem dX8_isWord_24 : decode cX8_isWord 24 = .ok (.ifCond .ne 7, 3) := by decide +kernel
theorem dX8_isWord_27 : decode cX8_isWord 27 = .ok (.iconst 1, 1) := by decide +kernel
theorem dX8_isWord_28 : decode cX8_isWord 28 = .ok (.goto 4, 3) := by decide +kernel
theorem dX8_isWord_31 : decode cX8_isWord 31 = .ok (.iconst 0, 1) := by decide +kernel
theorem dX8_isWord_32 : decode cX8_isWord 32 = .ok (.ireturn, 1) := by decide +kernel
theorem dX8_isSign_0 : decode cX8_isSign 0 = .ok (.aload_n 0, 1) := by decide +kernel
theorem dX8_isSign_1 : decode cX8_isSign 1 = .ok (.getfield 51, 3) := by decide +kernel
theorem dX8_isSign_4 : decode cX8_isSign 4 = .ok (.ifCond .ne 23, 3) := by decide +kernel
theorem dX8_isSign_7 : decode cX8_isSign 7 = .ok (.aload_n 0, 1) := by decide +kernel
theorem dX8_isSign_8 : decode cX8_isSign 8 = .ok (.getfield 70, 3) := by decide +kernel
theorem dX8_isSign_11 : decode cX8_isSign 11 = .ok (.iconst 4, 1) := by decide +kernel
theorem dX8_isSign_12 : decode cX8_isSign 12 = .ok (.if_icmp .ne 15, 3) := by decide +kernel
theorem dX8_isSign_15 : decode cX8_isSign 15 = .ok (.aload_n 0, 1) := by decide +kernel
theorem dX8_isSign_16 : decode cX8_isSign 16 = .ok (.getfield 88, 3) := by decide +kernel
theorem dX8_isSign_19 : decode cX8_isSign 19 = .ok (.iload_n 1, 1) := by decide +kernel
theorem dX8_isSign_20 : decode cX8_isSign 20 = .ok (.if_icmp .ne 7, 3) := by decide +kernel
theorem dX8_isSign_23 : decode cX8_isSign 23 = .ok (.iconst 1, 1) := by decide +kernel
theorem dX8_isSign_24 : decode cX8_isSign 24 = .ok (.goto 4, 3) := by decide +kernel
theorem dX8_isSign_27 : decode cX8_isSign 27 = .ok (.iconst 0, 1) := by decide +kernel
theorem dX8_isSign_28 : decode cX8_isSign 28 = .ok (.ireturn, 1) := by decide +kernel
theorem dX8_fault_0 : decode cX8_fault 0 = .ok (.aload_n 0, 1) := by decide +kernel
theorem dX8_fault_1 : decode cX8_fault 1 = .ok (.iconst 0, 1) := by decide +kernel
theorem dX8_fault_2 : decode cX8_fault 2 = .ok (.putfield 42, 3) := by decide +kernel
theorem dX8_fault_5 : decode cX8_fault 5 = .ok (.aload_n 0, 1) := by decide +kernel
theorem dX8_fault_6 : decode cX8_fault 6 = .ok (.getfield 51, 3) := by decide +kernel
theorem dX8_fault_9 : decode cX8_fault 9 = .ok (.ireturn, 1) := by decide +kernel
theorem dX8_where_0 : decode cX8_where 0 = .ok (.aload_n 0, 1) := by decide +kernel
theorem dX8_where_1 : decode cX8_where 1 = .ok (.iconst 0, 1) := by decide +kernel
theorem dX8_where_2 : decode cX8_where 2 = .ok (.putfield 42, 3) := by decide +kernel
theorem dX8_where_5 : decode cX8_where 5 = .ok (.aload_n 0, 1) := by decide +kernel
theorem dX8_where_6 : decode cX8_where 6 = .ok (.getfield 9, 3) := by decide +kernel
theorem dX8_where_9 : decode cX8_where 9 = .ok (.ireturn, 1) := by decide +kernel
theorem dX8_places_0 : decode cX8_places 0 = .ok (.aload_n 0, 1) := by decide +kernel
theorem dX8_places_1 : decode cX8_places 1 = .ok (.getfield 17, 3) := by decide +kernel
theorem dX8_places_4 : decode cX8_places 4 = .ok (.sipush 273, 3) := by decide +kernel
theorem dX8_places_7 : decode cX8_places 7 = .ok (.iload_n 1, 1) := by decide +kernel
theorem dX8_places_8 : decode cX8_places 8 = .ok (.imul, 1) := by decide +kernel
theorem dX8_places_9 : decode cX8_places 9 = .ok (.iaload, 1) := by decide +kernel
theorem dX8_places_10 : decode cX8_places 10 = .ok (.ireturn, 1) := by decide +kernel
theorem dX8_sizeOf_0 : decode cX8_sizeOf 0 = .ok (.aload_n 0, 1) := by decide +kernel
theorem dX8_sizeOf_1 : decode cX8_sizeOf 1 = .ok (.getfield 17, 3) := by decide +kernel
theorem dX8_sizeOf_4 : decode cX8_sizeOf 4 = .ok (.sipush 273, 3) := by decide +kernel
theorem dX8_sizeOf_7 : decode cX8_sizeOf 7 = .ok (.iload_n 1, 1) := by decide +kernel
theorem dX8_sizeOf_8 : decode cX8_sizeOf 8 = .ok (.imul, 1) := by decide +kernel
theorem dX8_sizeOf_9 : decode cX8_sizeOf 9 = .ok (.iconst 1, 1) := by decide +kernel
theorem dX8_sizeOf_10 : decode cX8_sizeOf 10 = .ok (.iadd, 1) := by decide +kernel
theorem dX8_sizeOf_11 : decode cX8_sizeOf 11 = .ok (.iload_n 2, 1) := by decide +kernel
theorem dX8_sizeOf_12 : decode cX8_sizeOf 12 = .ok (.iadd, 1) := by decide +kernel
theorem dX8_sizeOf_13 : decode cX8_sizeOf 13 = .ok (.iaload, 1) := by decide +kernel
theorem dX8_sizeOf_14 : decode cX8_sizeOf 14 = .ok (.ireturn, 1) := by decide +kernel
theorem dX8_weightOf_0 : decode cX8_weightOf 0 = .ok (.aload_n 0, 1) := by decide +kernel
theorem dX8_weightOf_1 : decode cX8_weightOf 1 = .ok (.getfield 17, 3) := by decide +kernel
theorem dX8_weightOf_4 : decode cX8_weightOf 4 = .ok (.sipush 273, 3) := by decide +kernel
theorem dX8_weightOf_7 : decode cX8_weightOf 7 = .ok (.iload_n 1, 1) := by decide +kernel
theorem dX8_weightOf_8 : decode cX8_weightOf 8 = .ok (.imul, 1) := by decide +kernel
theorem dX8_weightOf_9 : decode cX8_weightOf 9 = .ok (.bipush 9, 2) := by decide +kernel
theorem dX8_weightOf_11 : decode cX8_weightOf 11 = .ok (.iadd, 1) := by decide +kernel
theorem dX8_weightOf_12 : decode cX8_weightOf 12 = .ok (.iload_n 2, 1) := by decide +kernel
theorem dX8_weightOf_13 : decode cX8_weightOf 13 = .ok (.iadd, 1) := by decide +kernel
theorem dX8_weightOf_14 : decode cX8_weightOf 14 = .ok (.iaload, 1) := by decide +kernel
theorem dX8_weightOf_15 : decode cX8_weightOf 15 = .ok (.ireturn, 1) := by decide +kernel
theorem dX8_isIn_0 : decode cX8_isIn 0 = .ok (.aload_n 0, 1) := by decide +kernel
theorem dX8_isIn_1 : decode cX8_isIn 1 = .ok (.getfield 17, 3) := by decide +kernel
theorem dX8_isIn_4 : decode cX8_isIn 4 = .ok (.sipush 273, 3) := by decide +kernel
theorem dX8_isIn_7 : decode cX8_isIn 7 = .ok (.iload_n 1, 1) := by decide +kernel
theorem dX8_isIn_8 : decode cX8_isIn 8 = .ok (.imul, 1) := by decide +kernel
theorem dX8_isIn_9 : decode cX8_isIn 9 = .ok (.bipush 17, 2) := by decide +kernel
theorem dX8_isIn_11 : decode cX8_isIn 11 = .ok (.iadd, 1) := by decide +kernel
theorem dX8_isIn_12 : decode cX8_isIn 12 = .ok (.iload_n 2, 1) := by decide +kernel
theorem dX8_isIn_13 : decode cX8_isIn 13 = .ok (.iadd, 1) := by decide +kernel
theorem dX8_isIn_14 : decode cX8_isIn 14 = .ok (.iaload, 1) := by decide +kernel
theorem dX8_isIn_15 : decode cX8_isIn 15 = .ok (.iconst 1, 1) := by decide +kernel
theorem dX8_isIn_16 : decode cX8_isIn 16 = .ok (.if_icmp .ne 7, 3) := by decide +kernel
theorem dX8_isIn_19 : decode cX8_isIn 19 = .ok (.iconst 1, 1) := by decide +kernel
theorem dX8_isIn_20 : decode cX8_isIn 20 = .ok (.goto 4, 3) := by decide +kernel
theorem dX8_isIn_23 : decode cX8_isIn 23 = .ok (.iconst 0, 1) := by decide +kernel
theorem dX8_isIn_24 : decode cX8_isIn 24 = .ok (.ireturn, 1) := by decide +kernel
theorem dX8_marks_0 : decode cX8_marks 0 = .ok (.aload_n 0, 1) := by decide +kernel
theorem dX8_marks_1 : decode cX8_marks 1 = .ok (.getfield 17, 3) := by decide +kernel
theorem dX8_marks_4 : decode cX8_marks 4 = .ok (.sipush 273, 3) := by decide +kernel
theorem dX8_marks_7 : decode cX8_marks 7 = .ok (.iload_n 1, 1) := by decide +kernel
theorem dX8_marks_8 : decode cX8_marks 8 = .ok (.imul, 1) := by decide +kernel
theorem dX8_marks_9 : decode cX8_marks 9 = .ok (.bipush 17, 2) := by decide +kernel
theorem dX8_marks_11 : decode cX8_marks 11 = .ok (.iadd, 1) := by decide +kernel
theorem dX8_marks_12 : decode cX8_marks 12 = .ok (.iload_n 2, 1) := by decide +kernel
theorem dX8_marks_13 : decode cX8_marks 13 = .ok (.iadd, 1) := by decide +kernel
theorem dX8_marks_14 : decode cX8_marks 14 = .ok (.iload_n 3, 1) := by decide +kernel
theorem dX8_marks_15 : decode cX8_marks 15 = .ok (.ifCond .eq 7, 3) := by decide +kernel
theorem dX8_marks_18 : decode cX8_marks 18 = .ok (.iconst 1, 1) := by decide +kernel
theorem dX8_marks_19 : decode cX8_marks 19 = .ok (.goto 4, 3) := by decide +kernel
theorem dX8_marks_22 : decode cX8_marks 22 = .ok (.iconst 0, 1) := by decide +kernel
theorem dX8_marks_23 : decode cX8_marks 23 = .ok (.iastore, 1) := by decide +kernel
theorem dX8_marks_24 : decode cX8_marks 24 = .ok (.return_, 1) := by decide +kernel
theorem dX8_clears_0 : decode cX8_clears 0 = .ok (.iconst 0, 1) := by decide +kernel
theorem dX8_clears_1 : decode cX8_clears 1 = .ok (.istore_n 2, 1) := by decide +kernel
theorem dX8_clears_2 : decode cX8_clears 2 = .ok (.iload_n 2, 1) := by decide +kernel
theorem dX8_clears_3 : decode cX8_clears 3 = .ok (.sipush 273, 3) := by decide +kernel
theorem dX8_clears_6 : decode cX8_clears 6 = .ok (.if_icmp .ge 22, 3) := by decide +kernel
theorem dX8_clears_9 : decode cX8_clears 9 = .ok (.aload_n 0, 1) := by decide +kernel
theorem dX8_clears_10 : decode cX8_clears 10 = .ok (.getfield 17, 3) := by decide +kernel
theorem dX8_clears_13 : decode cX8_clears 13 = .ok (.sipush 273, 3) := by decide +kernel
theorem dX8_clears_16 : decode cX8_clears 16 = .ok (.iload_n 1, 1) := by decide +kernel
theorem dX8_clears_17 : decode cX8_clears 17 = .ok (.imul, 1) := by decide +kernel
theorem dX8_clears_18 : decode cX8_clears 18 = .ok (.iload_n 2, 1) := by decide +kernel
theorem dX8_clears_19 : decode cX8_clears 19 = .ok (.iadd, 1) := by decide +kernel
theorem dX8_clears_20 : decode cX8_clears 20 = .ok (.iconst 0, 1) := by decide +kernel
theorem dX8_clears_21 : decode cX8_clears 21 = .ok (.iastore, 1) := by decide +kernel
theorem dX8_clears_22 : decode cX8_clears 22 = .ok (.iinc 2 1, 3) := by decide +kernel
theorem dX8_clears_25 : decode cX8_clears 25 = .ok (.goto (-23), 3) := by decide +kernel
theorem dX8_clears_28 : decode cX8_clears 28 = .ok (.return_, 1) := by decide +kernel
theorem dX8_copies_0 : decode cX8_copies 0 = .ok (.iconst 0, 1) := by decide +kernel
theorem dX8_copies_1 : decode cX8_copies 1 = .ok (.istore_n 3, 1) := by decide +kernel
theorem dX8_copies_2 : decode cX8_copies 2 = .ok (.iload_n 3, 1) := by decide +kernel
theorem dX8_copies_3 : decode cX8_copies 3 = .ok (.sipush 273, 3) := by decide +kernel
theorem dX8_copies_6 : decode cX8_copies 6 = .ok (.if_icmp .ge 33, 3) := by decide +kernel
theorem dX8_copies_9 : decode cX8_copies 9 = .ok (.aload_n 0, 1) := by decide +kernel
theorem dX8_copies_10 : decode cX8_copies 10 = .ok (.getfield 17, 3) := by decide +kernel
theorem dX8_copies_13 : decode cX8_copies 13 = .ok (.sipush 273, 3) := by decide +kernel
theorem dX8_copies_16 : decode cX8_copies 16 = .ok (.iload_n 2, 1) := by decide +kernel
theorem dX8_copies_17 : decode cX8_copies 17 = .ok (.imul, 1) := by decide +kernel
theorem dX8_copies_18 : decode cX8_copies 18 = .ok (.iload_n 3, 1) := by decide +kernel
theorem dX8_copies_19 : decode cX8_copies 19 = .ok (.iadd, 1) := by decide +kernel
theorem dX8_copies_20 : decode cX8_copies 20 = .ok (.aload_n 0, 1) := by decide +kernel
theorem dX8_copies_21 : decode cX8_copies 21 = .ok (.getfield 17, 3) := by decide +kernel
theorem dX8_copies_24 : decode cX8_copies 24 = .ok (.sipush 273, 3) := by decide +kernel
theorem dX8_copies_27 : decode cX8_copies 27 = .ok (.iload_n 1, 1) := by decide +kernel
theorem dX8_copies_28 : decode cX8_copies 28 = .ok (.imul, 1) := by decide +kernel
theorem dX8_copies_29 : decode cX8_copies 29 = .ok (.iload_n 3, 1) := by decide +kernel
theorem dX8_copies_30 : decode cX8_copies 30 = .ok (.iadd, 1) := by decide +kernel
theorem dX8_copies_31 : decode cX8_copies 31 = .ok (.iaload, 1) := by decide +kernel
theorem dX8_copies_32 : decode cX8_copies 32 = .ok (.iastore, 1) := by decide +kernel
theorem dX8_copies_33 : decode cX8_copies 33 = .ok (.iinc 3 1, 3) := by decide +kernel
theorem dX8_copies_36 : decode cX8_copies 36 = .ok (.goto (-34), 3) := by decide +kernel
theorem dX8_copies_39 : decode cX8_copies 39 = .ok (.return_, 1) := by decide +kernel
theorem dX8_adds_0 : decode cX8_adds 0 = .ok (.aload_n 0, 1) := by decide +kernel
theorem dX8_adds_1 : decode cX8_adds 1 = .ok (.getfield 17, 3) := by decide +kernel
theorem dX8_adds_4 : decode cX8_adds 4 = .ok (.sipush 273, 3) := by decide +kernel
theorem dX8_adds_7 : decode cX8_adds 7 = .ok (.iload_n 1, 1) := by decide +kernel
theorem dX8_adds_8 : decode cX8_adds 8 = .ok (.imul, 1) := by decide +kernel
theorem dX8_adds_9 : decode cX8_adds 9 = .ok (.iconst 1, 1) := by decide +kernel
theorem dX8_adds_10 : decode cX8_adds 10 = .ok (.iadd, 1) := by decide +kernel
theorem dX8_adds_11 : decode cX8_adds 11 = .ok (.aload_n 0, 1) := by decide +kernel
theorem dX8_adds_12 : decode cX8_adds 12 = .ok (.iload_n 1, 1) := by decide +kernel
theorem dX8_adds_13 : decode cX8_adds 13 = .ok (.invokevirtual 105, 3) := by decide +kernel
theorem dX8_adds_16 : decode cX8_adds 16 = .ok (.iadd, 1) := by decide +kernel
theorem dX8_adds_17 : decode cX8_adds 17 = .ok (.iload_n 2, 1) := by decide +kernel
theorem dX8_adds_18 : decode cX8_adds 18 = .ok (.iastore, 1) := by decide +kernel
theorem dX8_adds_19 : decode cX8_adds 19 = .ok (.aload_n 0, 1) := by decide +kernel
theorem dX8_adds_20 : decode cX8_adds 20 = .ok (.getfield 17, 3) := by decide +kernel
theorem dX8_adds_23 : decode cX8_adds 23 = .ok (.sipush 273, 3) := by decide +kernel
theorem dX8_adds_26 : decode cX8_adds 26 = .ok (.iload_n 1, 1) := by decide +kernel
theorem dX8_adds_27 : decode cX8_adds 27 = .ok (.imul, 1) := by decide +kernel
theorem dX8_adds_28 : decode cX8_adds 28 = .ok (.bipush 9, 2) := by decide +kernel
theorem dX8_adds_30 : decode cX8_adds 30 = .ok (.iadd, 1) := by decide +kernel
theorem dX8_adds_31 : decode cX8_adds 31 = .ok (.aload_n 0, 1) := by decide +kernel
theorem dX8_adds_32 : decode cX8_adds 32 = .ok (.iload_n 1, 1) := by decide +kernel
theorem dX8_adds_33 : decode cX8_adds 33 = .ok (.invokevirtual 105, 3) := by decide +kernel
theorem dX8_adds_36 : decode cX8_adds 36 = .ok (.iadd, 1) := by decide +kernel
theorem dX8_adds_37 : decode cX8_adds 37 = .ok (.iload_n 3, 1) := by decide +kernel
theorem dX8_adds_38 : decode cX8_adds 38 = .ok (.iastore, 1) := by decide +kernel
theorem dX8_adds_39 : decode cX8_adds 39 = .ok (.aload_n 0, 1) := by decide +kernel
theorem dX8_adds_40 : decode cX8_adds 40 = .ok (.getfield 17, 3) := by decide +kernel
theorem dX8_adds_43 : decode cX8_adds 43 = .ok (.sipush 273, 3) := by decide +kernel
theorem dX8_adds_46 : decode cX8_adds 46 = .ok (.iload_n 1, 1) := by decide +kernel
theorem dX8_adds_47 : decode cX8_adds 47 = .ok (.imul, 1) := by decide +kernel
theorem dX8_adds_48 : decode cX8_adds 48 = .ok (.dup2, 1) := by decide +kernel
theorem dX8_adds_49 : decode cX8_adds 49 = .ok (.iaload, 1) := by decide +kernel
theorem dX8_adds_50 : decode cX8_adds 50 = .ok (.iconst 1, 1) := by decide +kernel
theorem dX8_adds_51 : decode cX8_adds 51 = .ok (.iadd, 1) := by decide +kernel
