theorem dX0_init_0 : decode cX0_init 0 = .ok (.aload_n 0, 1) := by decide +kernel
theorem dX0_init_1 : decode cX0_init 1 = .ok (.invokespecial 3, 3) := by decide +kernel
theorem dX0_init_4 : decode cX0_init 4 = .ok (.aload_n 0, 1) := by decide +kernel
theorem dX0_init_5 : decode cX0_init 5 = .ok (.bipush 81, 2) := by decide +kernel
theorem dX0_init_7 : decode cX0_init 7 = .ok (.newarray .long, 2) := by decide +kernel
theorem dX0_init_9 : decode cX0_init 9 = .ok (.putfield 9, 3) := by decide +kernel
theorem dX0_init_12 : decode cX0_init 12 = .ok (.aload_n 0, 1) := by decide +kernel
theorem dX0_init_13 : decode cX0_init 13 = .ok (.bipush 81, 2) := by decide +kernel
theorem dX0_init_15 : decode cX0_init 15 = .ok (.newarray .long, 2) := by decide +kernel
theorem dX0_init_17 : decode cX0_init 17 = .ok (.putfield 15, 3) := by decide +kernel
theorem dX0_init_20 : decode cX0_init 20 = .ok (.return_, 1) := by decide +kernel
theorem dX0_lay_0 : decode cX0_lay 0 = .ok (.aload_n 0, 1) := by decide +kernel
theorem dX0_lay_1 : decode cX0_lay 1 = .ok (.aload_n 1, 1) := by decide +kernel
theorem dX0_lay_2 : decode cX0_lay 2 = .ok (.getfield 18, 3) := by decide +kernel
theorem dX0_lay_5 : decode cX0_lay 5 = .ok (.bipush 81, 2) := by decide +kernel
theorem dX0_lay_7 : decode cX0_lay 7 = .ok (.invokestatic 24, 3) := by decide +kernel
theorem dX0_lay_10 : decode cX0_lay 10 = .ok (.putfield 30, 3) := by decide +kernel
theorem dX0_lay_13 : decode cX0_lay 13 = .ok (.aload_n 0, 1) := by decide +kernel
theorem dX0_lay_14 : decode cX0_lay 14 = .ok (.aload_n 1, 1) := by decide +kernel
theorem dX0_lay_15 : decode cX0_lay 15 = .ok (.iload_n 2, 1) := by decide +kernel
theorem dX0_lay_16 : decode cX0_lay 16 = .ok (.invokevirtual 31, 3) := by decide +kernel
theorem dX0_lay_19 : decode cX0_lay 19 = .ok (.putfield 35, 3) := by decide +kernel
theorem dX0_lay_22 : decode cX0_lay 22 = .ok (.iconst 0, 1) := by decide +kernel
theorem dX0_lay_23 : decode cX0_lay 23 = .ok (.istore_n 3, 1) := by decide +kernel
theorem dX0_lay_24 : decode cX0_lay 24 = .ok (.iload_n 3, 1) := by decide +kernel
theorem dX0_lay_25 : decode cX0_lay 25 = .ok (.aload_n 0, 1) := by decide +kernel
theorem dX0_lay_26 : decode cX0_lay 26 = .ok (.getfield 30, 3) := by decide +kernel
theorem dX0_lay_29 : decode cX0_lay 29 = .ok (.if_icmp .ge 16, 3) := by decide +kernel
theorem dX0_lay_32 : decode cX0_lay 32 = .ok (.aload_n 0, 1) := by decide +kernel
theorem dX0_lay_33 : decode cX0_lay 33 = .ok (.aload_n 1, 1) := by decide +kernel
theorem dX0_lay_34 : decode cX0_lay 34 = .ok (.iload_n 3, 1) := by decide +kernel
theorem dX0_lay_35 : decode cX0_lay 35 = .ok (.iload_n 2, 1) := by decide +kernel
theorem dX0_lay_36 : decode cX0_lay 36 = .ok (.invokevirtual 38, 3) := by decide +kernel
theorem dX0_lay_39 : decode cX0_lay 39 = .ok (.iinc 3 1, 3) := by decide +kernel
theorem dX0_lay_42 : decode cX0_lay 42 = .ok (.goto (-18), 3) := by decide +kernel
theorem dX0_lay_45 : decode cX0_lay 45 = .ok (.return_, 1) := by decide +kernel
theorem dX0_layBall_0 : decode cX0_layBall 0 = .ok (.lconst 0, 1) := by decide +kernel
theorem dX0_layBall_1 : decode cX0_layBall 1 = .ok (.lstore 4, 2) := by decide +kernel
theorem dX0_layBall_3 : decode cX0_layBall 3 = .ok (.lconst 0, 1) := by decide +kernel
theorem dX0_layBall_4 : decode cX0_layBall 4 = .ok (.lstore 6, 2) := by decide +kernel
theorem dX0_layBall_6 : decode cX0_layBall 6 = .ok (.iconst 0, 1) := by decide +kernel
theorem dX0_layBall_7 : decode cX0_layBall 7 = .ok (.istore 8, 2) := by decide +kernel
theorem dX0_layBall_9 : decode cX0_layBall 9 = .ok (.iload 8, 2) := by decide +kernel
theorem dX0_layBall_11 : decode cX0_layBall 11 = .ok (.aload_n 0, 1) := by decide +kernel
theorem dX0_layBall_12 : decode cX0_layBall 12 = .ok (.getfield 30, 3) := by decide +kernel
theorem dX0_layBall_15 : decode cX0_layBall 15 = .ok (.if_icmp .ge 40, 3) := by decide +kernel
theorem dX0_layBall_18 : decode cX0_layBall 18 = .ok (.aload_n 1, 1) := by decide +kernel
theorem dX0_layBall_19 : decode cX0_layBall 19 = .ok (.iload_n 2, 1) := by decide +kernel
theorem dX0_layBall_20 : decode cX0_layBall 20 = .ok (.iload 8, 2) := by decide +kernel
theorem dX0_layBall_22 : decode cX0_layBall 22 = .ok (.invokevirtual 42, 3) := by decide +kernel
theorem dX0_layBall_25 : decode cX0_layBall 25 = .ok (.iload_n 3, 1) := by decide +kernel
theorem dX0_layBall_26 : decode cX0_layBall 26 = .ok (.if_icmp .gt 23, 3) := by decide +kernel
theorem dX0_layBall_29 : decode cX0_layBall 29 = .ok (.lload 4, 2) := by decide +kernel
theorem dX0_layBall_31 : decode cX0_layBall 31 = .ok (.iload 8, 2) := by decide +kernel
theorem dX0_layBall_33 : decode cX0_layBall 33 = .ok (.invokestatic 45, 3) := by decide +kernel
theorem dX0_layBall_36 : decode cX0_layBall 36 = .ok (.lor, 1) := by decide +kernel
theorem dX0_layBall_37 : decode cX0_layBall 37 = .ok (.lstore 4, 2) := by decide +kernel
theorem dX0_layBall_39 : decode cX0_layBall 39 = .ok (.lload 6, 2) := by decide +kernel
theorem dX0_layBall_41 : decode cX0_layBall 41 = .ok (.iload 8, 2) := by decide +kernel
theorem dX0_layBall_43 : decode cX0_layBall 43 = .ok (.invokestatic 49, 3) := by decide +kernel
theorem dX0_layBall_46 : decode cX0_layBall 46 = .ok (.lor, 1) := by decide +kernel
theorem dX0_layBall_47 : decode cX0_layBall 47 = .ok (.lstore 6, 2) := by decide +kernel
theorem dX0_layBall_49 : decode cX0_layBall 49 = .ok (.iinc 8 1, 3) := by decide +kernel
theorem dX0_layBall_52 : decode cX0_layBall 52 = .ok (.goto (-43), 3) := by decide +kernel
theorem dX0_layBall_55 : decode cX0_layBall 55 = .ok (.aload_n 0, 1) := by decide +kernel
theorem dX0_layBall_56 : decode cX0_layBall 56 = .ok (.getfield 9, 3) := by decide +kernel
theorem dX0_layBall_59 : decode cX0_layBall 59 = .ok (.iload_n 2, 1) := by decide +kernel
theorem dX0_layBall_60 : decode cX0_layBall 60 = .ok (.lload 4, 2) := by decide +kernel
theorem dX0_layBall_62 : decode cX0_layBall 62 = .ok (.lastore, 1) := by decide +kernel
theorem dX0_layBall_63 : decode cX0_layBall 63 = .ok (.aload_n 0, 1) := by decide +kernel
theorem dX0_layBall_64 : decode cX0_layBall 64 = .ok (.getfield 15, 3) := by decide +kernel
theorem dX0_layBall_67 : decode cX0_layBall 67 = .ok (.iload_n 2, 1) := by decide +kernel
theorem dX0_layBall_68 : decode cX0_layBall 68 = .ok (.lload 6, 2) := by decide +kernel
theorem dX0_layBall_70 : decode cX0_layBall 70 = .ok (.lastore, 1) := by decide +kernel
theorem dX0_layBall_71 : decode cX0_layBall 71 = .ok (.return_, 1) := by decide +kernel
theorem dX0_lowBit_0 : decode cX0_lowBit 0 = .ok (.iload_n 0, 1) := by decide +kernel
theorem dX0_lowBit_1 : decode cX0_lowBit 1 = .ok (.bipush 64, 2) := by decide +kernel
theorem dX0_lowBit_3 : decode cX0_lowBit 3 = .ok (.if_icmp .ge 9, 3) := by decide +kernel
theorem dX0_lowBit_6 : decode cX0_lowBit 6 = .ok (.lconst 1, 1) := by decide +kernel
theorem dX0_lowBit_7 : decode cX0_lowBit 7 = .ok (.iload_n 0, 1) := by decide +kernel
theorem dX0_lowBit_8 : decode cX0_lowBit 8 = .ok (.lshl, 1) := by decide +kernel
theorem dX0_lowBit_9 : decode cX0_lowBit 9 = .ok (.goto 4, 3) := by decide +kernel
theorem dX0_lowBit_12 : decode cX0_lowBit 12 = .ok (.lconst 0, 1) := by decide +kernel
theorem dX0_lowBit_13 : decode cX0_lowBit 13 = .ok (.lreturn, 1) := by decide +kernel
theorem dX0_highBit_0 : decode cX0_highBit 0 = .ok (.iload_n 0, 1) := by decide +kernel
theorem dX0_highBit_1 : decode cX0_highBit 1 = .ok (.bipush 64, 2) := by decide +kernel
theorem dX0_highBit_3 : decode cX0_highBit 3 = .ok (.if_icmp .ge 7, 3) := by decide +kernel
theorem dX0_highBit_6 : decode cX0_highBit 6 = .ok (.lconst 0, 1) := by decide +kernel
theorem dX0_highBit_7 : decode cX0_highBit 7 = .ok (.goto 9, 3) := by decide +kernel
theorem dX0_highBit_10 : decode cX0_highBit 10 = .ok (.lconst 1, 1) := by decide +kernel
theorem dX0_highBit_11 : decode cX0_highBit 11 = .ok (.iload_n 0, 1) := by decide +kernel
theorem dX0_highBit_12 : decode cX0_highBit 12 = .ok (.bipush 64, 2) := by decide +kernel
theorem dX0_highBit_14 : decode cX0_highBit 14 = .ok (.isub, 1) := by decide +kernel
theorem dX0_highBit_15 : decode cX0_highBit 15 = .ok (.lshl, 1) := by decide +kernel
theorem dX0_highBit_16 : decode cX0_highBit 16 = .ok (.lreturn, 1) := by decide +kernel
theorem dX0_lowAll_0 : decode cX0_lowAll 0 = .ok (.aload_n 0, 1) := by decide +kernel
theorem dX0_lowAll_1 : decode cX0_lowAll 1 = .ok (.getfield 30, 3) := by decide +kernel
theorem dX0_lowAll_4 : decode cX0_lowAll 4 = .ok (.bipush 64, 2) := by decide +kernel
theorem dX0_lowAll_6 : decode cX0_lowAll 6 = .ok (.if_icmp .lt 9, 3) := by decide +kernel
theorem dX0_lowAll_9 : decode cX0_lowAll 9 = .ok (.ldc2_w 52, 3) := by decide +kernel
theorem dX0_lowAll_12 : decode cX0_lowAll 12 = .ok (.goto 11, 3) := by decide +kernel
theorem dX0_lowAll_15 : decode cX0_lowAll 15 = .ok (.lconst 1, 1) := by decide +kernel
theorem dX0_lowAll_16 : decode cX0_lowAll 16 = .ok (.aload_n 0, 1) := by decide +kernel
theorem dX0_lowAll_17 : decode cX0_lowAll 17 = .ok (.getfield 30, 3) := by decide +kernel
theorem dX0_lowAll_20 : decode cX0_lowAll 20 = .ok (.lshl, 1) := by decide +kernel
theorem dX0_lowAll_21 : decode cX0_lowAll 21 = .ok (.lconst 1, 1) := by decide +kernel
theorem dX0_lowAll_22 : decode cX0_lowAll 22 = .ok (.lsub, 1) := by decide +kernel
theorem dX0_lowAll_23 : decode cX0_lowAll 23 = .ok (.lreturn, 1) := by decide +kernel
theorem dX0_highAll_0 : decode cX0_highAll 0 = .ok (.aload_n 0, 1) := by decide +kernel
theorem dX0_highAll_1 : decode cX0_highAll 1 = .ok (.getfield 30, 3) := by decide +kernel
theorem dX0_highAll_4 : decode cX0_highAll 4 = .ok (.bipush 64, 2) := by decide +kernel
theorem dX0_highAll_6 : decode cX0_highAll 6 = .ok (.if_icmp .le 17, 3) := by decide +kernel
theorem dX0_highAll_9 : decode cX0_highAll 9 = .ok (.lconst 1, 1) := by decide +kernel
theorem dX0_highAll_10 : decode cX0_highAll 10 = .ok (.aload_n 0, 1) := by decide +kernel
theorem dX0_highAll_11 : decode cX0_highAll 11 = .ok (.getfield 30, 3) := by decide +kernel
theorem dX0_highAll_14 : decode cX0_highAll 14 = .ok (.bipush 64, 2) := by decide +kernel
theorem dX0_highAll_16 : decode cX0_highAll 16 = .ok (.isub, 1) := by decide +kernel
theorem dX0_highAll_17 : decode cX0_highAll 17 = .ok (.lshl, 1) := by decide +kernel
theorem dX0_highAll_18 : decode cX0_highAll 18 = .ok (.lconst 1, 1) := by decide +kernel
theorem dX0_highAll_19 : decode cX0_highAll 19 = .ok (.lsub, 1) := by decide +kernel
theorem dX0_highAll_20 : decode cX0_highAll 20 = .ok (.goto 4, 3) := by decide +kernel
theorem dX0_highAll_23 : decode cX0_highAll 23 = .ok (.lconst 0, 1) := by decide +kernel
theorem dX0_highAll_24 : decode cX0_highAll 24 = .ok (.lreturn, 1) := by decide +kernel
theorem dX0_countOf_0 : decode cX0_countOf 0 = .ok (.lload_n 0, 1) := by decide +kernel
theorem dX0_countOf_1 : decode cX0_countOf 1 = .ok (.invokestatic 54, 3) := by decide +kernel
theorem dX0_countOf_4 : decode cX0_countOf 4 = .ok (.lload_n 2, 1) := by decide +kernel
theorem dX0_countOf_5 : decode cX0_countOf 5 = .ok (.invokestatic 54, 3) := by decide +kernel
theorem dX0_countOf_8 : decode cX0_countOf 8 = .ok (.iadd, 1) := by decide +kernel
theorem dX0_countOf_9 : decode cX0_countOf 9 = .ok (.ireturn, 1) := by decide +kernel
theorem dX0_firstOf_0 : decode cX0_firstOf 0 = .ok (.lload_n 0, 1) := by decide +kernel
theorem dX0_firstOf_1 : decode cX0_firstOf 1 = .ok (.lconst 0, 1) := by decide +kernel
theorem dX0_firstOf_2 : decode cX0_firstOf 2 = .ok (.lcmp, 1) := by decide +kernel
theorem dX0_firstOf_3 : decode cX0_firstOf 3 = .ok (.ifCond .eq 13, 3) := by decide +kernel
theorem dX0_firstOf_6 : decode cX0_firstOf 6 = .ok (.lload_n 0, 1) := by decide +kernel
theorem dX0_firstOf_7 : decode cX0_firstOf 7 = .ok (.lload_n 0, 1) := by decide +kernel
theorem dX0_firstOf_8 : decode cX0_firstOf 8 = .ok (.lneg, 1) := by decide +kernel
theorem dX0_firstOf_9 : decode cX0_firstOf 9 = .ok (.land, 1) := by decide +kernel
theorem dX0_firstOf_10 : decode cX0_firstOf 10 = .ok (.lconst 1, 1) := by decide +kernel
theorem dX0_firstOf_11 : decode cX0_firstOf 11 = .ok (.lsub, 1) := by decide +kernel
theorem dX0_firstOf_12 : decode cX0_firstOf 12 = .ok (.invokestatic 54, 3) := by decide +kernel
theorem dX0_firstOf_15 : decode cX0_firstOf 15 = .ok (.ireturn, 1) := by decide +kernel
theorem dX0_firstOf_16 : decode cX0_firstOf 16 = .ok (.bipush 64, 2) := by decide +kernel
theorem dX0_firstOf_18 : decode cX0_firstOf 18 = .ok (.lload_n 2, 1) := by decide +kernel
theorem dX0_firstOf_19 : decode cX0_firstOf 19 = .ok (.lload_n 2, 1) := by decide +kernel
theorem dX0_firstOf_20 : decode cX0_firstOf 20 = .ok (.lneg, 1) := by decide +kernel
theorem dX0_firstOf_21 : decode cX0_firstOf 21 = .ok (.land, 1) := by decide +kernel
theorem dX0_firstOf_22 : decode cX0_firstOf 22 = .ok (.lconst 1, 1) := by decide +kernel
theorem dX0_firstOf_23 : decode cX0_firstOf 23 = .ok (.lsub, 1) := by decide +kernel
theorem dX0_firstOf_24 : decode cX0_firstOf 24 = .ok (.invokestatic 54, 3) := by decide +kernel
theorem dX0_firstOf_27 : decode cX0_firstOf 27 = .ok (.iadd, 1) := by decide +kernel
theorem dX0_firstOf_28 : decode cX0_firstOf 28 = .ok (.ireturn, 1) := by decide +kernel
theorem dX1_init_0 : decode cX1_init 0 = .ok (.aload_n 0, 1) := by decide +kernel
theorem dX1_init_1 : decode cX1_init 1 = .ok (.invokespecial 3, 3) := by decide +kernel
theorem dX1_init_4 : decode cX1_init 4 = .ok (.aload_n 0, 1) := by decide +kernel
theorem dX1_init_5 : decode cX1_init 5 = .ok (.iconst 1, 1) := by decide +kernel
theorem dX1_init_6 : decode cX1_init 6 = .ok (.putfield 9, 3) := by decide +kernel
theorem dX1_init_9 : decode cX1_init 9 = .ok (.aload_n 0, 1) := by decide +kernel
theorem dX1_init_10 : decode cX1_init 10 = .ok (.bipush 8, 2) := by decide +kernel
theorem dX1_init_12 : decode cX1_init 12 = .ok (.newarray .int, 2) := by decide +kernel
theorem dX1_init_14 : decode cX1_init 14 = .ok (.putfield 15, 3) := by decide +kernel
theorem dX1_init_17 : decode cX1_init 17 = .ok (.aload_n 0, 1) := by decide +kernel
theorem dX1_init_18 : decode cX1_init 18 = .ok (.bipush 8, 2) := by decide +kernel
theorem dX1_init_20 : decode cX1_init 20 = .ok (.newarray .int, 2) := by decide +kernel
theorem dX1_init_22 : decode cX1_init 22 = .ok (.putfield 19, 3) := by decide +kernel
theorem dX1_init_25 : decode cX1_init 25 = .ok (.aload_n 0, 1) := by decide +kernel
theorem dX1_init_26 : decode cX1_init 26 = .ok (.iconst 4, 1) := by decide +kernel
theorem dX1_init_27 : decode cX1_init 27 = .ok (.newarray .long, 2) := by decide +kernel
theorem dX1_init_29 : decode cX1_init 29 = .ok (.putfield 22, 3) := by decide +kernel
theorem dX1_init_32 : decode cX1_init 32 = .ok (.return_, 1) := by decide +kernel
theorem dX1_clear_0 : decode cX1_clear 0 = .ok (.aload_n 0, 1) := by decide +kernel
theorem dX1_clear_1 : decode cX1_clear 1 = .ok (.iconst 0, 1) := by decide +kernel
theorem dX1_clear_2 : decode cX1_clear 2 = .ok (.putfield 26, 3) := by decide +kernel
theorem dX1_clear_5 : decode cX1_clear 5 = .ok (.aload_n 0, 1) := by decide +kernel
theorem dX1_clear_6 : decode cX1_clear 6 = .ok (.iconst 0, 1) := by decide +kernel
theorem dX1_clear_7 : decode cX1_clear 7 = .ok (.putfield 30, 3) := by decide +kernel
theorem dX1_clear_10 : decode cX1_clear 10 = .ok (.aload_n 0, 1) := by decide +kernel
theorem dX1_clear_11 : decode cX1_clear 11 = .ok (.iconst 1, 1) := by decide +kernel
theorem dX1_clear_12 : decode cX1_clear 12 = .ok (.putfield 9, 3) := by decide +kernel
theorem dX1_clear_15 : decode cX1_clear 15 = .ok (.aload_n 0, 1) := by decide +kernel
theorem dX1_clear_16 : decode cX1_clear 16 = .ok (.invokevirtual 33, 3) := by decide +kernel
theorem dX1_clear_19 : decode cX1_clear 19 = .ok (.return_, 1) := by decide +kernel
theorem dX1_dropAll_0 : decode cX1_dropAll 0 = .ok (.aload_n 0, 1) := by decide +kernel
theorem dX1_dropAll_1 : decode cX1_dropAll 1 = .ok (.iconst 0, 1) := by decide +kernel
theorem dX1_dropAll_2 : decode cX1_dropAll 2 = .ok (.putfield 36, 3) := by decide +kernel
theorem dX1_dropAll_5 : decode cX1_dropAll 5 = .ok (.aload_n 0, 1) := by decide +kernel
theorem dX1_dropAll_6 : decode cX1_dropAll 6 = .ok (.getfield 22, 3) := by decide +kernel
theorem dX1_dropAll_9 : decode cX1_dropAll 9 = .ok (.lconst 0, 1) := by decide +kernel
theorem dX1_dropAll_10 : decode cX1_dropAll 10 = .ok (.invokestatic 39, 3) := by decide +kernel
theorem dX1_dropAll_13 : decode cX1_dropAll 13 = .ok (.return_, 1) := by decide +kernel
theorem dX1_copy_0 : decode cX1_copy 0 = .ok (.aload_n 0, 1) := by decide +kernel
theorem dX1_copy_1 : decode cX1_copy 1 = .ok (.aload_n 1, 1) := by decide +kernel
theorem dX1_copy_2 : decode cX1_copy 2 = .ok (.invokevirtual 45, 3) := by decide +kernel
theorem dX1_copy_5 : decode cX1_copy 5 = .ok (.aload_n 0, 1) := by decide +kernel
theorem dX1_copy_6 : decode cX1_copy 6 = .ok (.aload_n 1, 1) := by decide +kernel
theorem dX1_copy_7 : decode cX1_copy 7 = .ok (.getfield 26, 3) := by decide +kernel
theorem dX1_copy_10 : decode cX1_copy 10 = .ok (.putfield 26, 3) := by decide +kernel
theorem dX1_copy_13 : decode cX1_copy 13 = .ok (.aload_n 0, 1) := by decide +kernel
theorem dX1_copy_14 : decode cX1_copy 14 = .ok (.aload_n 1, 1) := by decide +kernel
theorem dX1_copy_15 : decode cX1_copy 15 = .ok (.getfield 36, 3) := by decide +kernel
theorem dX1_copy_18 : decode cX1_copy 18 = .ok (.putfield 36, 3) := by decide +kernel
theorem dX1_copy_21 : decode cX1_copy 21 = .ok (.aload_n 1, 1) := by decide +kernel
theorem dX1_copy_22 : decode cX1_copy 22 = .ok (.getfield 22, 3) := by decide +kernel
theorem dX1_copy_25 : decode cX1_copy 25 = .ok (.iconst 0, 1) := by decide +kernel
theorem dX1_copy_26 : decode cX1_copy 26 = .ok (.aload_n 0, 1) := by decide +kernel
theorem dX1_copy_27 : decode cX1_copy 27 = .ok (.getfield 22, 3) := by decide +kernel
theorem dX1_copy_30 : decode cX1_copy 30 = .ok (.iconst 0, 1) := by decide +kernel
theorem dX1_copy_31 : decode cX1_copy 31 = .ok (.aload_n 0, 1) := by decide +kernel
theorem dX1_copy_32 : decode cX1_copy 32 = .ok (.getfield 22, 3) := by decide +kernel
theorem dX1_copy_35 : decode cX1_copy 35 = .ok (.arraylength, 1) := by decide +kernel
theorem dX1_copy_36 : decode cX1_copy 36 = .ok (.invokestatic 49, 3) := by decide +kernel
theorem dX1_copy_39 : decode cX1_copy 39 = .ok (.return_, 1) := by decide +kernel
theorem dX1_copySpace_0 : decode cX1_copySpace 0 = .ok (.aload_n 0, 1) := by decide +kernel
theorem dX1_copySpace_1 : decode cX1_copySpace 1 = .ok (.iconst 1, 1) := by decide +kernel
theorem dX1_copySpace_2 : decode cX1_copySpace 2 = .ok (.putfield 26, 3) := by decide +kernel
theorem dX1_copySpace_5 : decode cX1_copySpace 5 = .ok (.aload_n 0, 1) := by decide +kernel
theorem dX1_copySpace_6 : decode cX1_copySpace 6 = .ok (.aload_n 1, 1) := by decide +kernel
theorem dX1_copySpace_7 : decode cX1_copySpace 7 = .ok (.getfield 30, 3) := by decide +kernel
theorem dX1_copySpace_10 : decode cX1_copySpace 10 = .ok (.putfield 30, 3) := by decide +kernel
theorem dX1_copySpace_13 : decode cX1_copySpace 13 = .ok (.aload_n 0, 1) := by decide +kernel
theorem dX1_copySpace_14 : decode cX1_copySpace 14 = .ok (.aload_n 1, 1) := by decide +kernel
theorem dX1_copySpace_15 : decode cX1_copySpace 15 = .ok (.getfield 9, 3) := by decide +kernel
theorem dX1_copySpace_18 : decode cX1_copySpace 18 = .ok (.putfield 9, 3) := by decide +kernel
theorem dX1_copySpace_21 : decode cX1_copySpace 21 = .ok (.aload_n 1, 1) := by decide +kernel
theorem dX1_copySpace_22 : decode cX1_copySpace 22 = .ok (.getfield 15, 3) := by decide +kernel
theorem dX1_copySpace_25 : decode cX1_copySpace 25 = .ok (.iconst 0, 1) := by decide +kernel
theorem dX1_copySpace_26 : decode cX1_copySpace 26 = .ok (.aload_n 0, 1) := by decide +kernel
theorem dX1_copySpace_27 : decode cX1_copySpace 27 = .ok (.getfield 15, 3) := by decide +kernel
theorem dX1_copySpace_30 : decode cX1_copySpace 30 = .ok (.iconst 0, 1) := by decide +kernel
theorem dX1_copySpace_31 : decode cX1_copySpace 31 = .ok (.bipush 8, 2) := by decide +kernel
theorem dX1_copySpace_33 : decode cX1_copySpace 33 = .ok (.invokestatic 49, 3) := by decide +kernel
theorem dX1_copySpace_36 : decode cX1_copySpace 36 = .ok (.aload_n 1, 1) := by decide +kernel
theorem dX1_copySpace_37 : decode cX1_copySpace 37 = .ok (.getfield 19, 3) := by decide +kernel
theorem dX1_copySpace_40 : decode cX1_copySpace 40 = .ok (.iconst 0, 1) := by decide +kernel
theorem dX1_copySpace_41 : decode cX1_copySpace 41 = .ok (.aload_n 0, 1) := by decide +kernel
theorem dX1_copySpace_42 : decode cX1_copySpace 42 = .ok (.getfield 19, 3) := by decide +kernel
theorem dX1_copySpace_45 : decode cX1_copySpace 45 = .ok (.iconst 0, 1) := by decide +kernel
theorem dX1_copySpace_46 : decode cX1_copySpace 46 = .ok (.bipush 8, 2) := by decide +kernel
theorem dX1_copySpace_48 : decode cX1_copySpace 48 = .ok (.invokestatic 49, 3) := by decide +kernel
theorem dX1_copySpace_51 : decode cX1_copySpace 51 = .ok (.aload_n 0, 1) := by decide +kernel
theorem dX1_copySpace_52 : decode cX1_copySpace 52 = .ok (.invokevirtual 33, 3) := by decide +kernel
theorem dX1_copySpace_55 : decode cX1_copySpace 55 = .ok (.return_, 1) := by decide +kernel
theorem dX1_hasRoomFor_0 : decode cX1_hasRoomFor 0 = .ok (.aload_n 0, 1) := by decide +kernel
theorem dX1_hasRoomFor_1 : decode cX1_hasRoomFor 1 = .ok (.getfield 30, 3) := by decide +kernel
theorem dX1_hasRoomFor_4 : decode cX1_hasRoomFor 4 = .ok (.bipush 8, 2) := by decide +kernel
theorem dX1_hasRoomFor_6 : decode cX1_hasRoomFor 6 = .ok (.if_icmp .ge 19, 3) := by decide +kernel
theorem dX1_hasRoomFor_9 : decode cX1_hasRoomFor 9 = .ok (.aload_n 0, 1) := by decide +kernel
theorem dX1_hasRoomFor_10 : decode cX1_hasRoomFor 10 = .ok (.getfield 9, 3) := by decide +kernel
theorem dX1_hasRoomFor_13 : decode cX1_hasRoomFor 13 = .ok (.iload_n 1, 1) := by decide +kernel
theorem dX1_hasRoomFor_14 : decode cX1_hasRoomFor 14 = .ok (.imul, 1) := by decide +kernel
theorem dX1_hasRoomFor_15 : decode cX1_hasRoomFor 15 = .ok (.sipush 256, 3) := by decide +kernel
theorem dX1_hasRoomFor_18 : decode cX1_hasRoomFor 18 = .ok (.if_icmp .gt 7, 3) := by decide +kernel
theorem dX1_hasRoomFor_21 : decode cX1_hasRoomFor 21 = .ok (.iconst 1, 1) := by decide +kernel
theorem dX1_hasRoomFor_22 : decode cX1_hasRoomFor 22 = .ok (.goto 4, 3) := by decide +kernel
theorem dX1_hasRoomFor_25 : decode cX1_hasRoomFor 25 = .ok (.iconst 0, 1) := by decide +kernel
theorem dX1_hasRoomFor_26 : decode cX1_hasRoomFor 26 = .ok (.ireturn, 1) := by decide +kernel
theorem dX1_addPlace_0 : decode cX1_addPlace 0 = .ok (.iload_n 1, 1) := by decide +kernel
theorem dX1_addPlace_1 : decode cX1_addPlace 1 = .ok (.invokestatic 55, 3) := by decide +kernel
theorem dX1_addPlace_4 : decode cX1_addPlace 4 = .ok (.ifCond .eq 18, 3) := by decide +kernel
theorem dX1_addPlace_7 : decode cX1_addPlace 7 = .ok (.iload_n 2, 1) := by decide +kernel
theorem dX1_addPlace_8 : decode cX1_addPlace 8 = .ok (.invokestatic 59, 3) := by decide +kernel
theorem dX1_addPlace_11 : decode cX1_addPlace 11 = .ok (.ifCond .eq 11, 3) := by decide +kernel
theorem dX1_addPlace_14 : decode cX1_addPlace 14 = .ok (.aload_n 0, 1) := by decide +kernel
theorem dX1_addPlace_15 : decode cX1_addPlace 15 = .ok (.iload_n 1, 1) := by decide +kernel
theorem dX1_addPlace_16 : decode cX1_addPlace 16 = .ok (.invokevirtual 62, 3) := by decide +kernel
theorem dX1_addPlace_19 : decode cX1_addPlace 19 = .ok (.ifCond .ne 5, 3) := by decide +kernel
theorem dX1_addPlace_22 : decode cX1_addPlace 22 = .ok (.iconst 0, 1) := by decide +kernel
theorem dX1_addPlace_23 : decode cX1_addPlace 23 = .ok (.ireturn, 1) := by decide +kernel
theorem dX1_addPlace_24 : decode cX1_addPlace 24 = .ok (.aload_n 0, 1) := by decide +kernel
theorem dX1_addPlace_25 : decode cX1_addPlace 25 = .ok (.iconst 1, 1) := by decide +kernel
theorem dX1_addPlace_26 : decode cX1_addPlace 26 = .ok (.putfield 26, 3) := by decide +kernel
theorem dX1_addPlace_29 : decode cX1_addPlace 29 = .ok (.aload_n 0, 1) := by decide +kernel
theorem dX1_addPlace_30 : decode cX1_addPlace 30 = .ok (.getfield 15, 3) := by decide +kernel
theorem dX1_addPlace_33 : decode cX1_addPlace 33 = .ok (.aload_n 0, 1) := by decide +kernel
theorem dX1_addPlace_34 : decode cX1_addPlace 34 = .ok (.getfield 30, 3) := by decide +kernel
theorem dX1_addPlace_37 : decode cX1_addPlace 37 = .ok (.iload_n 1, 1) := by decide +kernel
theorem dX1_addPlace_38 : decode cX1_addPlace 38 = .ok (.iastore, 1) := by decide +kernel
theorem dX1_addPlace_39 : decode cX1_addPlace 39 = .ok (.aload_n 0, 1) := by decide +kernel
theorem dX1_addPlace_40 : decode cX1_addPlace 40 = .ok (.getfield 19, 3) := by decide +kernel
theorem dX1_addPlace_43 : decode cX1_addPlace 43 = .ok (.aload_n 0, 1) := by decide +kernel
theorem dX1_addPlace_44 : decode cX1_addPlace 44 = .ok (.getfield 30, 3) := by decide +kernel
theorem dX1_addPlace_47 : decode cX1_addPlace 47 = .ok (.iload_n 2, 1) := by decide +kernel
theorem dX1_addPlace_48 : decode cX1_addPlace 48 = .ok (.iastore, 1) := by decide +kernel
theorem dX1_addPlace_49 : decode cX1_addPlace 49 = .ok (.aload_n 0, 1) := by decide +kernel
theorem dX1_addPlace_50 : decode cX1_addPlace 50 = .ok (.dup, 1) := by decide +kernel
theorem dX1_addPlace_51 : decode cX1_addPlace 51 = .ok (.getfield 30, 3) := by decide +kernel
theorem dX1_addPlace_54 : decode cX1_addPlace 54 = .ok (.iconst 1, 1) := by decide +kernel
theorem dX1_addPlace_55 : decode cX1_addPlace 55 = .ok (.iadd, 1) := by decide +kernel
theorem dX1_addPlace_56 : decode cX1_addPlace 56 = .ok (.putfield 30, 3) := by decide +kernel
theorem dX1_addPlace_59 : decode cX1_addPlace 59 = .ok (.aload_n 0, 1) := by decide +kernel
theorem dX1_addPlace_60 : decode cX1_addPlace 60 = .ok (.dup, 1) := by decide +kernel
theorem dX1_addPlace_61 : decode cX1_addPlace 61 = .ok (.getfield 9, 3) := by decide +kernel
theorem dX1_addPlace_64 : decode cX1_addPlace 64 = .ok (.iload_n 1, 1) := by decide +kernel
theorem dX1_addPlace_65 : decode cX1_addPlace 65 = .ok (.imul, 1) := by decide +kernel
theorem dX1_addPlace_66 : decode cX1_addPlace 66 = .ok (.putfield 9, 3) := by decide +kernel
theorem dX1_addPlace_69 : decode cX1_addPlace 69 = .ok (.iconst 1, 1) := by decide +kernel
theorem dX1_addPlace_70 : decode cX1_addPlace 70 = .ok (.ireturn, 1) := by decide +kernel
theorem dX1_addPlaces_0 : decode cX1_addPlaces 0 = .ok (.iload_n 2, 1) := by decide +kernel
theorem dX1_addPlaces_1 : decode cX1_addPlaces 1 = .ok (.istore_n 3, 1) := by decide +kernel
theorem dX1_addPlaces_2 : decode cX1_addPlaces 2 = .ok (.iload_n 3, 1) := by decide +kernel
theorem dX1_addPlaces_3 : decode cX1_addPlaces 3 = .ok (.aload_n 1, 1) := by decide +kernel
theorem dX1_addPlaces_4 : decode cX1_addPlaces 4 = .ok (.getfield 30, 3) := by decide +kernel
theorem dX1_addPlaces_7 : decode cX1_addPlaces 7 = .ok (.if_icmp .ge 30, 3) := by decide +kernel
theorem dX1_addPlaces_10 : decode cX1_addPlaces 10 = .ok (.aload_n 0, 1) := by decide +kernel
theorem dX1_addPlaces_11 : decode cX1_addPlaces 11 = .ok (.aload_n 1, 1) := by decide +kernel
theorem dX1_addPlaces_12 : decode cX1_addPlaces 12 = .ok (.getfield 15, 3) := by decide +kernel
theorem dX1_addPlaces_15 : decode cX1_addPlaces 15 = .ok (.iload_n 3, 1) := by decide +kernel
theorem dX1_addPlaces_16 : decode cX1_addPlaces 16 = .ok (.iaload, 1) := by decide +kernel
theorem dX1_addPlaces_17 : decode cX1_addPlaces 17 = .ok (.aload_n 1, 1) := by decide +kernel
theorem dX1_addPlaces_18 : decode cX1_addPlaces 18 = .ok (.getfield 19, 3) := by decide +kernel
theorem dX1_addPlaces_21 : decode cX1_addPlaces 21 = .ok (.iload_n 3, 1) := by decide +kernel
theorem dX1_addPlaces_22 : decode cX1_addPlaces 22 = .ok (.iaload, 1) := by decide +kernel
theorem dX1_addPlaces_23 : decode cX1_addPlaces 23 = .ok (.invokevirtual 65, 3) := by decide +kernel
theorem dX1_addPlaces_26 : decode cX1_addPlaces 26 = .ok (.ifCond .ne 5, 3) := by decide +kernel
theorem dX1_addPlaces_29 : decode cX1_addPlaces 29 = .ok (.iconst 0, 1) := by decide +kernel
theorem dX1_addPlaces_30 : decode cX1_addPlaces 30 = .ok (.ireturn, 1) := by decide +kernel
theorem dX1_addPlaces_31 : decode cX1_addPlaces 31 = .ok (.iinc 3 1, 3) := by decide +kernel
theorem dX1_addPlaces_34 : decode cX1_addPlaces 34 = .ok (.goto (-32), 3) := by decide +kernel
theorem dX1_addPlaces_37 : decode cX1_addPlaces 37 = .ok (.iconst 1, 1) := by decide +kernel
theorem dX1_addPlaces_38 : decode cX1_addPlaces 38 = .ok (.ireturn, 1) := by decide +kernel
theorem dX1_addPlacesBut_0 : decode cX1_addPlacesBut 0 = .ok (.iconst 0, 1) := by decide +kernel
theorem dX1_addPlacesBut_1 : decode cX1_addPlacesBut 1 = .ok (.istore_n 3, 1) := by decide +kernel
theorem dX1_addPlacesBut_2 : decode cX1_addPlacesBut 2 = .ok (.iload_n 3, 1) := by decide +kernel
theorem dX1_addPlacesBut_3 : decode cX1_addPlacesBut 3 = .ok (.aload_n 1, 1) := by decide +kernel
theorem dX1_addPlacesBut_4 : decode cX1_addPlacesBut 4 = .ok (.getfield 30, 3) := by decide +kernel
theorem dX1_addPlacesBut_7 : decode cX1_addPlacesBut 7 = .ok (.if_icmp .ge 31, 3) := by decide +kernel
theorem dX1_addPlacesBut_10 : decode cX1_addPlacesBut 10 = .ok (.iload_n 3, 1) := by decide +kernel
theorem dX1_addPlacesBut_11 : decode cX1_addPlacesBut 11 = .ok (.iload_n 2, 1) := by decide +kernel
theorem dX1_addPlacesBut_12 : decode cX1_addPlacesBut 12 = .ok (.if_icmp .eq 20, 3) := by decide +kernel
theorem dX1_addPlacesBut_15 : decode cX1_addPlacesBut 15 = .ok (.aload_n 0, 1) := by decide +kernel
theorem dX1_addPlacesBut_16 : decode cX1_addPlacesBut 16 = .ok (.aload_n 1, 1) := by decide +kernel
theorem dX1_addPlacesBut_17 : decode cX1_addPlacesBut 17 = .ok (.getfield 15, 3) := by decide +kernel
theorem dX1_addPlacesBut_20 : decode cX1_addPlacesBut 20 = .ok (.iload_n 3, 1) := by decide +kernel
theorem dX1_addPlacesBut_21 : decode cX1_addPlacesBut 21 = .ok (.iaload, 1) := by decide +kernel
theorem dX1_addPlacesBut_22 : decode cX1_addPlacesBut 22 = .ok (.aload_n 1, 1) := by decide +kernel
theorem dX1_addPlacesBut_23 : decode cX1_addPlacesBut 23 = .ok (.getfield 19, 3) := by decide +kernel
theorem dX1_addPlacesBut_26 : decode cX1_addPlacesBut 26 = .ok (.iload_n 3, 1) := by decide +kernel
theorem dX1_addPlacesBut_27 : decode cX1_addPlacesBut 27 = .ok (.iaload, 1) := by decide +kernel
theorem dX1_addPlacesBut_28 : decode cX1_addPlacesBut 28 = .ok (.invokevirtual 65, 3) := by decide +kernel
theorem dX1_addPlacesBut_31 : decode cX1_addPlacesBut 31 = .ok (.pop, 1) := by decide +kernel
theorem dX1_addPlacesBut_32 : decode cX1_addPlacesBut 32 = .ok (.iinc 3 1, 3) := by decide +kernel
theorem dX1_addPlacesBut_35 : decode cX1_addPlacesBut 35 = .ok (.goto (-33), 3) := by decide +kernel
theorem dX1_addPlacesBut_38 : decode cX1_addPlacesBut 38 = .ok (.return_, 1) := by decide +kernel
theorem dX1_addPlacesSwapped_0 : decode cX1_addPlacesSwapped 0 = .ok (.iconst 0, 1) := by decide +kernel
theorem dX1_addPlacesSwapped_1 : decode cX1_addPlacesSwapped 1 = .ok (.istore 4, 2) := by decide +kernel
theorem dX1_addPlacesSwapped_3 : decode cX1_addPlacesSwapped 3 = .ok (.iload 4, 2) := by decide +kernel
theorem dX1_addPlacesSwapped_5 : decode cX1_addPlacesSwapped 5 = .ok (.aload_n 1, 1) := by decide +kernel
theorem dX1_addPlacesSwapped_6 : decode cX1_addPlacesSwapped 6 = .ok (.getfield 30, 3) := by decide +kernel
theorem dX1_addPlacesSwapped_9 : decode cX1_addPlacesSwapped 9 = .ok (.if_icmp .ge 37, 3) := by decide +kernel
theorem dX1_addPlacesSwapped_12 : decode cX1_addPlacesSwapped 12 = .ok (.iload 4, 2) := by decide +kernel
theorem dX1_addPlacesSwapped_14 : decode cX1_addPlacesSwapped 14 = .ok (.iload_n 2, 1) := by decide +kernel
theorem dX1_addPlacesSwapped_15 : decode cX1_addPlacesSwapped 15 = .ok (.iload_n 3, 1) := by decide +kernel
theorem dX1_addPlacesSwapped_16 : decode cX1_addPlacesSwapped 16 = .ok (.invokestatic 69, 3) := by decide +kernel
theorem dX1_addPlacesSwapped_19 : decode cX1_addPlacesSwapped 19 = .ok (.istore 5, 2) := by decide +kernel
theorem dX1_addPlacesSwapped_21 : decode cX1_addPlacesSwapped 21 = .ok (.aload_n 0, 1) := by decide +kernel
theorem dX1_addPlacesSwapped_22 : decode cX1_addPlacesSwapped 22 = .ok (.aload_n 1, 1) := by decide +kernel
theorem dX1_addPlacesSwapped_23 : decode cX1_addPlacesSwapped 23 = .ok (.getfield 15, 3) := by decide +kernel
theorem dX1_addPlacesSwapped_26 : decode cX1_addPlacesSwapped 26 = .ok (.iload 5, 2) := by decide +kernel
theorem dX1_addPlacesSwapped_28 : decode cX1_addPlacesSwapped 28 = .ok (.iaload, 1) := by decide +kernel
theorem dX1_addPlacesSwapped_29 : decode cX1_addPlacesSwapped 29 = .ok (.aload_n 1, 1) := by decide +kernel
theorem dX1_addPlacesSwapped_30 : decode cX1_addPlacesSwapped 30 = .ok (.getfield 19, 3) := by decide +kernel
theorem dX1_addPlacesSwapped_33 : decode cX1_addPlacesSwapped 33 = .ok (.iload 5, 2) := by decide +kernel
theorem dX1_addPlacesSwapped_35 : decode cX1_addPlacesSwapped 35 = .ok (.iaload, 1) := by decide +kernel
theorem dX1_addPlacesSwapped_36 : decode cX1_addPlacesSwapped 36 = .ok (.invokevirtual 65, 3) := by decide +kernel
theorem dX1_addPlacesSwapped_39 : decode cX1_addPlacesSwapped 39 = .ok (.pop, 1) := by decide +kernel
theorem dX1_addPlacesSwapped_40 : decode cX1_addPlacesSwapped 40 = .ok (.iinc 4 1, 3) := by decide +kernel
theorem dX1_addPlacesSwapped_43 : decode cX1_addPlacesSwapped 43 = .ok (.goto (-40), 3) := by decide +kernel
theorem dX1_addPlacesSwapped_46 : decode cX1_addPlacesSwapped 46 = .ok (.return_, 1) := by decide +kernel
theorem dX1_swapped_0 : decode cX1_swapped 0 = .ok (.iload_n 0, 1) := by decide +kernel
theorem dX1_swapped_1 : decode cX1_swapped 1 = .ok (.iload_n 1, 1) := by decide +kernel
theorem dX1_swapped_2 : decode cX1_swapped 2 = .ok (.if_icmp .ne 5, 3) := by decide +kernel
theorem dX1_swapped_5 : decode cX1_swapped 5 = .ok (.iload_n 2, 1) := by decide +kernel
theorem dX1_swapped_6 : decode cX1_swapped 6 = .ok (.ireturn, 1) := by decide +kernel
theorem dX1_swapped_7 : decode cX1_swapped 7 = .ok (.iload_n 0, 1) := by decide +kernel
theorem dX1_swapped_8 : decode cX1_swapped 8 = .ok (.iload_n 2, 1) := by decide +kernel
theorem dX1_swapped_9 : decode cX1_swapped 9 = .ok (.if_icmp .ne 7, 3) := by decide +kernel
theorem dX1_swapped_12 : decode cX1_swapped 12 = .ok (.iload_n 1, 1) := by decide +kernel
theorem dX1_swapped_13 : decode cX1_swapped 13 = .ok (.goto 4, 3) := by decide +kernel
theorem dX1_swapped_16 : decode cX1_swapped 16 = .ok (.iload_n 0, 1) := by decide +kernel
theorem dX1_swapped_17 : decode cX1_swapped 17 = .ok (.ireturn, 1) := by decide +kernel
theorem dX1_holds_0 : decode cX1_holds 0 = .ok (.iload_n 1, 1) := by decide +kernel
theorem dX1_holds_1 : decode cX1_holds 1 = .ok (.ifCond .lt 36, 3) := by decide +kernel
theorem dX1_holds_4 : decode cX1_holds 4 = .ok (.iload_n 1, 1) := by decide +kernel
theorem dX1_holds_5 : decode cX1_holds 5 = .ok (.aload_n 0, 1) := by decide +kernel
theorem dX1_holds_6 : decode cX1_holds 6 = .ok (.getfield 9, 3) := by decide +kernel
theorem dX1_holds_9 : decode cX1_holds 9 = .ok (.if_icmp .ge 28, 3) := by decide +kernel
theorem dX1_holds_12 : decode cX1_holds 12 = .ok (.aload_n 0, 1) := by decide +kernel
theorem dX1_holds_13 : decode cX1_holds 13 = .ok (.getfield 22, 3) := by decide +kernel
theorem dX1_holds_16 : decode cX1_holds 16 = .ok (.iload_n 1, 1) := by decide +kernel
theorem dX1_holds_17 : decode cX1_holds 17 = .ok (.bipush 6, 2) := by decide +kernel
theorem dX1_holds_19 : decode cX1_holds 19 = .ok (.ishr, 1) := by decide +kernel
theorem dX1_holds_20 : decode cX1_holds 20 = .ok (.laload, 1) := by decide +kernel
theorem dX1_holds_21 : decode cX1_holds 21 = .ok (.iload_n 1, 1) := by decide +kernel
theorem dX1_holds_22 : decode cX1_holds 22 = .ok (.bipush 63, 2) := by decide +kernel
theorem dX1_holds_24 : decode cX1_holds 24 = .ok (.iand, 1) := by decide +kernel
theorem dX1_holds_25 : decode cX1_holds 25 = .ok (.lushr, 1) := by decide +kernel
theorem dX1_holds_26 : decode cX1_holds 26 = .ok (.lconst 1, 1) := by decide +kernel
theorem dX1_holds_27 : decode cX1_holds 27 = .ok (.land, 1) := by decide +kernel
theorem dX1_holds_28 : decode cX1_holds 28 = .ok (.lconst 0, 1) := by decide +kernel
theorem dX1_holds_29 : decode cX1_holds 29 = .ok (.lcmp, 1) := by decide +kernel
theorem dX1_holds_30 : decode cX1_holds 30 = .ok (.ifCond .eq 7, 3) := by decide +kernel
theorem dX1_holds_33 : decode cX1_holds 33 = .ok (.iconst 1, 1) := by decide +kernel
theorem dX1_holds_34 : decode cX1_holds 34 = .ok (.goto 4, 3) := by decide +kernel
theorem dX1_holds_37 : decode cX1_holds 37 = .ok (.iconst 0, 1) := by decide +kernel
theorem dX1_holds_38 : decode cX1_holds 38 = .ok (.ireturn, 1) := by decide +kernel
theorem dX1_put_0 : decode cX1_put 0 = .ok (.iload_n 1, 1) := by decide +kernel
theorem dX1_put_1 : decode cX1_put 1 = .ok (.ifCond .lt 47, 3) := by decide +kernel
theorem dX1_put_4 : decode cX1_put 4 = .ok (.iload_n 1, 1) := by decide +kernel
theorem dX1_put_5 : decode cX1_put 5 = .ok (.aload_n 0, 1) := by decide +kernel
theorem dX1_put_6 : decode cX1_put 6 = .ok (.getfield 9, 3) := by decide +kernel
theorem dX1_put_9 : decode cX1_put 9 = .ok (.if_icmp .ge 39, 3) := by decide +kernel
theorem dX1_put_12 : decode cX1_put 12 = .ok (.aload_n 0, 1) := by decide +kernel
theorem dX1_put_13 : decode cX1_put 13 = .ok (.iload_n 1, 1) := by decide +kernel
theorem dX1_put_14 : decode cX1_put 14 = .ok (.invokevirtual 73, 3) := by decide +kernel
theorem dX1_put_17 : decode cX1_put 17 = .ok (.ifCond .ne 31, 3) := by decide +kernel
theorem dX1_put_20 : decode cX1_put 20 = .ok (.aload_n 0, 1) := by decide +kernel
theorem dX1_put_21 : decode cX1_put 21 = .ok (.getfield 22, 3) := by decide +kernel
theorem dX1_put_24 : decode cX1_put 24 = .ok (.iload_n 1, 1) := by decide +kernel
theorem dX1_put_25 : decode cX1_put 25 = .ok (.bipush 6, 2) := by decide +kernel
theorem dX1_put_27 : decode cX1_put 27 = .ok (.ishr, 1) := by decide +kernel
theorem dX1_put_28 : decode cX1_put 28 = .ok (.dup2, 1) := by decide +kernel
theorem dX1_put_29 : decode cX1_put 29 = .ok (.laload, 1) := by decide +kernel
theorem dX1_put_30 : decode cX1_put 30 = .ok (.lconst 1, 1) := by decide +kernel
theorem dX1_put_31 : decode cX1_put 31 = .ok (.iload_n 1, 1) := by decide +kernel
theorem dX1_put_32 : decode cX1_put 32 = .ok (.bipush 63, 2) := by decide +kernel
theorem dX1_put_34 : decode cX1_put 34 = .ok (.iand, 1) := by decide +kernel
theorem dX1_put_35 : decode cX1_put 35 = .ok (.lshl, 1) := by decide +kernel
theorem dX1_put_36 : decode cX1_put 36 = .ok (.lor, 1) := by decide +kernel
theorem dX1_put_37 : decode cX1_put 37 = .ok (.lastore, 1) := by decide +kernel
theorem dX1_put_38 : decode cX1_put 38 = .ok (.aload_n 0, 1) := by decide +kernel
theorem dX1_put_39 : decode cX1_put 39 = .ok (.dup, 1) := by decide +kernel
theorem dX1_put_40 : decode cX1_put 40 = .ok (.getfield 36, 3) := by decide +kernel
theorem dX1_put_43 : decode cX1_put 43 = .ok (.iconst 1, 1) := by decide +kernel
theorem dX1_put_44 : decode cX1_put 44 = .ok (.iadd, 1) := by decide +kernel
theorem dX1_put_45 : decode cX1_put 45 = .ok (.putfield 36, 3) := by decide +kernel
theorem dX1_put_48 : decode cX1_put 48 = .ok (.return_, 1) := by decide +kernel
theorem dX1_drop_0 : decode cX1_drop 0 = .ok (.aload_n 0, 1) := by decide +kernel
theorem dX1_drop_1 : decode cX1_drop 1 = .ok (.iload_n 1, 1) := by decide +kernel
theorem dX1_drop_2 : decode cX1_drop 2 = .ok (.invokevirtual 73, 3) := by decide +kernel
theorem dX1_drop_5 : decode cX1_drop 5 = .ok (.ifCond .eq 35, 3) := by decide +kernel
theorem dX1_drop_8 : decode cX1_drop 8 = .ok (.aload_n 0, 1) := by decide +kernel
theorem dX1_drop_9 : decode cX1_drop 9 = .ok (.getfield 22, 3) := by decide +kernel
theorem dX1_drop_12 : decode cX1_drop 12 = .ok (.iload_n 1, 1) := by decide +kernel
theorem dX1_drop_13 : decode cX1_drop 13 = .ok (.bipush 6, 2) := by decide +kernel
theorem dX1_drop_15 : decode cX1_drop 15 = .ok (.ishr, 1) := by decide +kernel
theorem dX1_drop_16 : decode cX1_drop 16 = .ok (.dup2, 1) := by decide +kernel
theorem dX1_drop_17 : decode cX1_drop 17 = .ok (.laload, 1) := by decide +kernel
theorem dX1_drop_18 : decode cX1_drop 18 = .ok (.lconst 1, 1) := by decide +kernel
theorem dX1_drop_19 : decode cX1_drop 19 = .ok (.iload_n 1, 1) := by decide +kernel
theorem dX1_drop_20 : decode cX1_drop 20 = .ok (.bipush 63, 2) := by decide +kernel
theorem dX1_drop_22 : decode cX1_drop 22 = .ok (.iand, 1) := by decide +kernel
theorem dX1_drop_23 : decode cX1_drop 23 = .ok (.lshl, 1) := by decide +kernel
theorem dX1_drop_24 : decode cX1_drop 24 = .ok (.ldc2_w 76, 3) := by decide +kernel
theorem dX1_drop_27 : decode cX1_drop 27 = .ok (.lxor, 1) := by decide +kernel
theorem dX1_drop_28 : decode cX1_drop 28 = .ok (.land, 1) := by decide +kernel
theorem dX1_drop_29 : decode cX1_drop 29 = .ok (.lastore, 1) := by decide +kernel
theorem dX1_drop_30 : decode cX1_drop 30 = .ok (.aload_n 0, 1) := by decide +kernel
theorem dX1_drop_31 : decode cX1_drop 31 = .ok (.dup, 1) := by decide +kernel
theorem dX1_drop_32 : decode cX1_drop 32 = .ok (.getfield 36, 3) := by decide +kernel
theorem dX1_drop_35 : decode cX1_drop 35 = .ok (.iconst 1, 1) := by decide +kernel
theorem dX1_drop_36 : decode cX1_drop 36 = .ok (.isub, 1) := by decide +kernel
theorem dX1_drop_37 : decode cX1_drop 37 = .ok (.putfield 36, 3) := by decide +kernel
theorem dX1_drop_40 : decode cX1_drop 40 = .ok (.return_, 1) := by decide +kernel
theorem dX1_codeword_0 : decode cX1_codeword 0 = .ok (.iload_n 1, 1) := by decide +kernel
theorem dX1_codeword_1 : decode cX1_codeword 1 = .ok (.istore_n 2, 1) := by decide +kernel
theorem dX1_codeword_2 : decode cX1_codeword 2 = .ok (.iconst 0, 1) := by decide +kernel
theorem dX1_codeword_3 : decode cX1_codeword 3 = .ok (.istore_n 3, 1) := by decide +kernel
theorem dX1_codeword_4 : decode cX1_codeword 4 = .ok (.iload_n 3, 1) := by decide +kernel
theorem dX1_codeword_5 : decode cX1_codeword 5 = .ok (.aload_n 0, 1) := by decide +kernel
theorem dX1_codeword_6 : decode cX1_codeword 6 = .ok (.getfield 9, 3) := by decide +kernel
theorem dX1_codeword_9 : decode cX1_codeword 9 = .ok (.if_icmp .ge 26, 3) := by decide +kernel
theorem dX1_codeword_12 : decode cX1_codeword 12 = .ok (.aload_n 0, 1) := by decide +kernel
theorem dX1_codeword_13 : decode cX1_codeword 13 = .ok (.iload_n 3, 1) := by decide +kernel
theorem dX1_codeword_14 : decode cX1_codeword 14 = .ok (.invokevirtual 73, 3) := by decide +kernel
theorem dX1_codeword_17 : decode cX1_codeword 17 = .ok (.ifCond .eq 12, 3) := by decide +kernel
theorem dX1_codeword_20 : decode cX1_codeword 20 = .ok (.iload_n 2, 1) := by decide +kernel
theorem dX1_codeword_21 : decode cX1_codeword 21 = .ok (.ifCond .ne 5, 3) := by decide +kernel
theorem dX1_codeword_24 : decode cX1_codeword 24 = .ok (.iload_n 3, 1) := by decide +kernel
theorem dX1_codeword_25 : decode cX1_codeword 25 = .ok (.ireturn, 1) := by decide +kernel
theorem dX1_codeword_26 : decode cX1_codeword 26 = .ok (.iinc 2 (-1), 3) := by decide +kernel
theorem dX1_codeword_29 : decode cX1_codeword 29 = .ok (.iinc 3 1, 3) := by decide +kernel
theorem dX1_codeword_32 : decode cX1_codeword 32 = .ok (.goto (-28), 3) := by decide +kernel
theorem dX1_codeword_35 : decode cX1_codeword 35 = .ok (.bipush (-2), 2) := by decide +kernel
theorem dX1_codeword_37 : decode cX1_codeword 37 = .ok (.ireturn, 1) := by decide +kernel
theorem dX1_allWeights_0 : decode cX1_allWeights 0 = .ok (.iconst 0, 1) := by decide +kernel
theorem dX1_allWeights_1 : decode cX1_allWeights 1 = .ok (.istore_n 1, 1) := by decide +kernel
theorem dX1_allWeights_2 : decode cX1_allWeights 2 = .ok (.iconst 0, 1) := by decide +kernel
theorem dX1_allWeights_3 : decode cX1_allWeights 3 = .ok (.istore_n 2, 1) := by decide +kernel
theorem dX1_allWeights_4 : decode cX1_allWeights 4 = .ok (.iload_n 2, 1) := by decide +kernel
theorem dX1_allWeights_5 : decode cX1_allWeights 5 = .ok (.aload_n 0, 1) := by decide +kernel
theorem dX1_allWeights_6 : decode cX1_allWeights 6 = .ok (.getfield 30, 3) := by decide +kernel
theorem dX1_allWeights_9 : decode cX1_allWeights 9 = .ok (.if_icmp .ge 18, 3) := by decide +kernel
theorem dX1_allWeights_12 : decode cX1_allWeights 12 = .ok (.iload_n 1, 1) := by decide +kernel
theorem dX1_allWeights_13 : decode cX1_allWeights 13 = .ok (.aload_n 0, 1) := by decide +kernel
theorem dX1_allWeights_14 : decode cX1_allWeights 14 = .ok (.getfield 19, 3) := by decide +kernel
theorem dX1_allWeights_17 : decode cX1_allWeights 17 = .ok (.iload_n 2, 1) := by decide +kernel
theorem dX1_allWeights_18 : decode cX1_allWeights 18 = .ok (.iaload, 1) := by decide +kernel
theorem dX1_allWeights_19 : decode cX1_allWeights 19 = .ok (.iadd, 1) := by decide +kernel
theorem dX1_allWeights_20 : decode cX1_allWeights 20 = .ok (.istore_n 1, 1) := by decide +kernel
theorem dX1_allWeights_21 : decode cX1_allWeights 21 = .ok (.iinc 2 1, 3) := by decide +kernel
theorem dX1_allWeights_24 : decode cX1_allWeights 24 = .ok (.goto (-20), 3) := by decide +kernel
theorem dX1_allWeights_27 : decode cX1_allWeights 27 = .ok (.iload_n 1, 1) := by decide +kernel
theorem dX1_allWeights_28 : decode cX1_allWeights 28 = .ok (.ireturn, 1) := by decide +kernel
theorem dX1_hasSpaceOf_0 : decode cX1_hasSpaceOf 0 = .ok (.aload_n 0, 1) := by decide +kernel
theorem dX1_hasSpaceOf_1 : decode cX1_hasSpaceOf 1 = .ok (.getfield 30, 3) := by decide +kernel
theorem dX1_hasSpaceOf_4 : decode cX1_hasSpaceOf 4 = .ok (.aload_n 1, 1) := by decide +kernel
theorem dX1_hasSpaceOf_5 : decode cX1_hasSpaceOf 5 = .ok (.getfield 30, 3) := by decide +kernel
theorem dX1_hasSpaceOf_8 : decode cX1_hasSpaceOf 8 = .ok (.if_icmp .eq 5, 3) := by decide +kernel
theorem dX1_hasSpaceOf_11 : decode cX1_hasSpaceOf 11 = .ok (.iconst 0, 1) := by decide +kernel
theorem dX1_hasSpaceOf_12 : decode cX1_hasSpaceOf 12 = .ok (.ireturn, 1) := by decide +kernel
theorem dX1_hasSpaceOf_13 : decode cX1_hasSpaceOf 13 = .ok (.iconst 0, 1) := by decide +kernel
theorem dX1_hasSpaceOf_14 : decode cX1_hasSpaceOf 14 = .ok (.istore_n 2, 1) := by decide +kernel
theorem dX1_hasSpaceOf_15 : decode cX1_hasSpaceOf 15 = .ok (.iload_n 2, 1) := by decide +kernel
theorem dX1_hasSpaceOf_16 : decode cX1_hasSpaceOf 16 = .ok (.aload_n 0, 1) := by decide +kernel
theorem dX1_hasSpaceOf_17 : decode cX1_hasSpaceOf 17 = .ok (.getfield 30, 3) := by decide +kernel
theorem dX1_hasSpaceOf_20 : decode cX1_hasSpaceOf 20 = .ok (.if_icmp .ge 41, 3) := by decide +kernel
theorem dX1_hasSpaceOf_23 : decode cX1_hasSpaceOf 23 = .ok (.aload_n 0, 1) := by decide +kernel
theorem dX1_hasSpaceOf_24 : decode cX1_hasSpaceOf 24 = .ok (.getfield 15, 3) := by decide +kernel
theorem dX1_hasSpaceOf_27 : decode cX1_hasSpaceOf 27 = .ok (.iload_n 2, 1) := by decide +kernel
theorem dX1_hasSpaceOf_28 : decode cX1_hasSpaceOf 28 = .ok (.iaload, 1) := by decide +kernel
theorem dX1_hasSpaceOf_29 : decode cX1_hasSpaceOf 29 = .ok (.aload_n 1, 1) := by decide +kernel
theorem dX1_hasSpaceOf_30 : decode cX1_hasSpaceOf 30 = .ok (.getfield 15, 3) := by decide +kernel
theorem dX1_hasSpaceOf_33 : decode cX1_hasSpaceOf 33 = .ok (.iload_n 2, 1) := by decide +kernel
theorem dX1_hasSpaceOf_34 : decode cX1_hasSpaceOf 34 = .ok (.iaload, 1) := by decide +kernel
theorem dX1_hasSpaceOf_35 : decode cX1_hasSpaceOf 35 = .ok (.if_icmp .ne 18, 3) := by decide +kernel
theorem dX1_hasSpaceOf_38 : decode cX1_hasSpaceOf 38 = .ok (.aload_n 0, 1) := by decide +kernel
theorem dX1_hasSpaceOf_39 : decode cX1_hasSpaceOf 39 = .ok (.getfield 19, 3) := by decide +kernel
theorem dX1_hasSpaceOf_42 : decode cX1_hasSpaceOf 42 = .ok (.iload_n 2, 1) := by decide +kernel
theorem dX1_hasSpaceOf_43 : decode cX1_hasSpaceOf 43 = .ok (.iaload, 1) := by decide +kernel
theorem dX1_hasSpaceOf_44 : decode cX1_hasSpaceOf 44 = .ok (.aload_n 1, 1) := by decide +kernel
theorem dX1_hasSpaceOf_45 : decode cX1_hasSpaceOf 45 = .ok (.getfield 19, 3) := by decide +kernel
theorem dX1_hasSpaceOf_48 : decode cX1_hasSpaceOf 48 = .ok (.iload_n 2, 1) := by decide +kernel
theorem dX1_hasSpaceOf_49 : decode cX1_hasSpaceOf 49 = .ok (.iaload, 1) := by decide +kernel
theorem dX1_hasSpaceOf_50 : decode cX1_hasSpaceOf 50 = .ok (.if_icmp .eq 5, 3) := by decide +kernel
theorem dX1_hasSpaceOf_53 : decode cX1_hasSpaceOf 53 = .ok (.iconst 0, 1) := by decide +kernel
theorem dX1_hasSpaceOf_54 : decode cX1_hasSpaceOf 54 = .ok (.ireturn, 1) := by decide +kernel
theorem dX1_hasSpaceOf_55 : decode cX1_hasSpaceOf 55 = .ok (.iinc 2 1, 3) := by decide +kernel
theorem dX1_hasSpaceOf_58 : decode cX1_hasSpaceOf 58 = .ok (.goto (-43), 3) := by decide +kernel
theorem dX1_hasSpaceOf_61 : decode cX1_hasSpaceOf 61 = .ok (.iconst 1, 1) := by decide +kernel
theorem dX1_hasSpaceOf_62 : decode cX1_hasSpaceOf 62 = .ok (.ireturn, 1) := by decide +kernel
theorem dX1_hasWordsOf_0 : decode cX1_hasWordsOf 0 = .ok (.iconst 0, 1) := by decide +kernel
theorem dX1_hasWordsOf_1 : decode cX1_hasWordsOf 1 = .ok (.istore_n 2, 1) := by decide +kernel
theorem dX1_hasWordsOf_2 : decode cX1_hasWordsOf 2 = .ok (.iload_n 2, 1) := by decide +kernel
theorem dX1_hasWordsOf_3 : decode cX1_hasWordsOf 3 = .ok (.aload_n 0, 1) := by decide +kernel
theorem dX1_hasWordsOf_4 : decode cX1_hasWordsOf 4 = .ok (.getfield 22, 3) := by decide +kernel
theorem dX1_hasWordsOf_7 : decode cX1_hasWordsOf 7 = .ok (.arraylength, 1) := by decide +kernel
theorem dX1_hasWordsOf_8 : decode cX1_hasWordsOf 8 = .ok (.if_icmp .ge 27, 3) := by decide +kernel
theorem dX1_hasWordsOf_11 : decode cX1_hasWordsOf 11 = .ok (.aload_n 0, 1) := by decide +kernel
theorem dX1_hasWordsOf_12 : decode cX1_hasWordsOf 12 = .ok (.getfield 22, 3) := by decide +kernel
theorem dX1_hasWordsOf_15 : decode cX1_hasWordsOf 15 = .ok (.iload_n 2, 1) := by decide +kernel
theorem dX1_hasWordsOf_16 : decode cX1_hasWordsOf 16 = .ok (.laload, 1) := by decide +kernel
theorem dX1_hasWordsOf_17 : decode cX1_hasWordsOf 17 = .ok (.aload_n 1, 1) := by decide +kernel
theorem dX1_hasWordsOf_18 : decode cX1_hasWordsOf 18 = .ok (.getfield 22, 3) := by decide +kernel
theorem dX1_hasWordsOf_21 : decode cX1_hasWordsOf 21 = .ok (.iload_n 2, 1) := by decide +kernel
theorem dX1_hasWordsOf_22 : decode cX1_hasWordsOf 22 = .ok (.laload, 1) := by decide +kernel
theorem dX1_hasWordsOf_23 : decode cX1_hasWordsOf 23 = .ok (.lcmp, 1) := by decide +kernel
theorem dX1_hasWordsOf_24 : decode cX1_hasWordsOf 24 = .ok (.ifCond .eq 5, 3) := by decide +kernel
theorem dX1_hasWordsOf_27 : decode cX1_hasWordsOf 27 = .ok (.iconst 0, 1) := by decide +kernel
theorem dX1_hasWordsOf_28 : decode cX1_hasWordsOf 28 = .ok (.ireturn, 1) := by decide +kernel
theorem dX1_hasWordsOf_29 : decode cX1_hasWordsOf 29 = .ok (.iinc 2 1, 3) := by decide +kernel
theorem dX1_hasWordsOf_32 : decode cX1_hasWordsOf 32 = .ok (.goto (-30), 3) := by decide +kernel
theorem dX1_hasWordsOf_35 : decode cX1_hasWordsOf 35 = .ok (.iconst 1, 1) := by decide +kernel
theorem dX1_hasWordsOf_36 : decode cX1_hasWordsOf 36 = .ok (.ireturn, 1) := by decide +kernel
theorem dX1_endsAsBegins_0 : decode cX1_endsAsBegins 0 = .ok (.aload_n 0, 1) := by decide +kernel
theorem dX1_endsAsBegins_1 : decode cX1_endsAsBegins 1 = .ok (.getfield 30, 3) := by decide +kernel
theorem dX1_endsAsBegins_4 : decode cX1_endsAsBegins 4 = .ok (.iconst 1, 1) := by decide +kernel
theorem dX1_endsAsBegins_5 : decode cX1_endsAsBegins 5 = .ok (.if_icmp .lt 11, 3) := by decide +kernel
theorem dX1_endsAsBegins_8 : decode cX1_endsAsBegins 8 = .ok (.aload_n 1, 1) := by decide +kernel
theorem dX1_endsAsBegins_9 : decode cX1_endsAsBegins 9 = .ok (.getfield 30, 3) := by decide +kernel
theorem dX1_endsAsBegins_12 : decode cX1_endsAsBegins 12 = .ok (.iconst 1, 1) := by decide +kernel
theorem dX1_endsAsBegins_13 : decode cX1_endsAsBegins 13 = .ok (.if_icmp .ge 5, 3) := by decide +kernel
theorem dX1_endsAsBegins_16 : decode cX1_endsAsBegins 16 = .ok (.iconst 0, 1) := by decide +kernel
theorem dX1_endsAsBegins_17 : decode cX1_endsAsBegins 17 = .ok (.ireturn, 1) := by decide +kernel
theorem dX1_endsAsBegins_18 : decode cX1_endsAsBegins 18 = .ok (.aload_n 0, 1) := by decide +kernel
theorem dX1_endsAsBegins_19 : decode cX1_endsAsBegins 19 = .ok (.getfield 30, 3) := by decide +kernel
theorem dX1_endsAsBegins_22 : decode cX1_endsAsBegins 22 = .ok (.iconst 1, 1) := by decide +kernel
theorem dX1_endsAsBegins_23 : decode cX1_endsAsBegins 23 = .ok (.isub, 1) := by decide +kernel
theorem dX1_endsAsBegins_24 : decode cX1_endsAsBegins 24 = .ok (.istore_n 2, 1) := by decide +kernel
theorem dX1_endsAsBegins_25 : decode cX1_endsAsBegins 25 = .ok (.aload_n 0, 1) := by decide +kernel
theorem dX1_endsAsBegins_26 : decode cX1_endsAsBegins 26 = .ok (.getfield 15, 3) := by decide +kernel
theorem dX1_endsAsBegins_29 : decode cX1_endsAsBegins 29 = .ok (.iload_n 2, 1) := by decide +kernel
theorem dX1_endsAsBegins_30 : decode cX1_endsAsBegins 30 = .ok (.iaload, 1) := by decide +kernel
theorem dX1_endsAsBegins_31 : decode cX1_endsAsBegins 31 = .ok (.aload_n 1, 1) := by decide +kernel
theorem dX1_endsAsBegins_32 : decode cX1_endsAsBegins 32 = .ok (.getfield 15, 3) := by decide +kernel
theorem dX1_endsAsBegins_35 : decode cX1_endsAsBegins 35 = .ok (.iconst 0, 1) := by decide +kernel
theorem dX1_endsAsBegins_36 : decode cX1_endsAsBegins 36 = .ok (.iaload, 1) := by decide +kernel
theorem dX1_endsAsBegins_37 : decode cX1_endsAsBegins 37 = .ok (.if_icmp .ne 22, 3) := by decide +kernel
theorem dX1_endsAsBegins_40 : decode cX1_endsAsBegins 40 = .ok (.aload_n 0, 1) := by decide +kernel
theorem dX1_endsAsBegins_41 : decode cX1_endsAsBegins 41 = .ok (.getfield 19, 3) := by decide +kernel
theorem dX1_endsAsBegins_44 : decode cX1_endsAsBegins 44 = .ok (.iload_n 2, 1) := by decide +kernel
theorem dX1_endsAsBegins_45 : decode cX1_endsAsBegins 45 = .ok (.iaload, 1) := by decide +kernel
theorem dX1_endsAsBegins_46 : decode cX1_endsAsBegins 46 = .ok (.aload_n 1, 1) := by decide +kernel
theorem dX1_endsAsBegins_47 : decode cX1_endsAsBegins 47 = .ok (.getfield 19, 3) := by decide +kernel
theorem dX1_endsAsBegins_50 : decode cX1_endsAsBegins 50 = .ok (.iconst 0, 1) := by decide +kernel
theorem dX1_endsAsBegins_51 : decode cX1_endsAsBegins 51 = .ok (.iaload, 1) := by decide +kernel
theorem dX1_endsAsBegins_52 : decode cX1_endsAsBegins 52 = .ok (.if_icmp .ne 7, 3) := by decide +kernel
theorem dX1_endsAsBegins_55 : decode cX1_endsAsBegins 55 = .ok (.iconst 1, 1) := by decide +kernel
theorem dX1_endsAsBegins_56 : decode cX1_endsAsBegins 56 = .ok (.goto 4, 3) := by decide +kernel
theorem dX1_endsAsBegins_59 : decode cX1_endsAsBegins 59 = .ok (.iconst 0, 1) := by decide +kernel
theorem dX1_endsAsBegins_60 : decode cX1_endsAsBegins 60 = .ok (.ireturn, 1) := by decide +kernel
theorem dX1_wordsOf_0 : decode cX1_wordsOf 0 = .ok (.iconst 1, 1) := by decide +kernel
theorem dX1_wordsOf_1 : decode cX1_wordsOf 1 = .ok (.istore_n 3, 1) := by decide +kernel
theorem dX1_wordsOf_2 : decode cX1_wordsOf 2 = .ok (.iload_n 1, 1) := by decide +kernel
theorem dX1_wordsOf_3 : decode cX1_wordsOf 3 = .ok (.istore 4, 2) := by decide +kernel
theorem dX1_wordsOf_5 : decode cX1_wordsOf 5 = .ok (.iload 4, 2) := by decide +kernel
theorem dX1_wordsOf_7 : decode cX1_wordsOf 7 = .ok (.iload_n 2, 1) := by decide +kernel
theorem dX1_wordsOf_8 : decode cX1_wordsOf 8 = .ok (.if_icmp .ge 19, 3) := by decide +kernel
theorem dX1_wordsOf_11 : decode cX1_wordsOf 11 = .ok (.iload_n 3, 1) := by decide +kernel
theorem dX1_wordsOf_12 : decode cX1_wordsOf 12 = .ok (.aload_n 0, 1) := by decide +kernel
theorem dX1_wordsOf_13 : decode cX1_wordsOf 13 = .ok (.getfield 15, 3) := by decide +kernel
theorem dX1_wordsOf_16 : decode cX1_wordsOf 16 = .ok (.iload 4, 2) := by decide +kernel
theorem dX1_wordsOf_18 : decode cX1_wordsOf 18 = .ok (.iaload, 1) := by decide +kernel
theorem dX1_wordsOf_19 : decode cX1_wordsOf 19 = .ok (.imul, 1) := by decide +kernel
theorem dX1_wordsOf_20 : decode cX1_wordsOf 20 = .ok (.istore_n 3, 1) := by decide +kernel
theorem dX1_wordsOf_21 : decode cX1_wordsOf 21 = .ok (.iinc 4 1, 3) := by decide +kernel
theorem dX1_wordsOf_24 : decode cX1_wordsOf 24 = .ok (.goto (-19), 3) := by decide +kernel
theorem dX1_wordsOf_27 : decode cX1_wordsOf 27 = .ok (.iload_n 3, 1) := by decide +kernel
theorem dX1_wordsOf_28 : decode cX1_wordsOf 28 = .ok (.ireturn, 1) := by decide +kernel
theorem dX1_putPairs_0 : decode cX1_putPairs 0 = .ok (.iconst 0, 1) := by decide +kernel
theorem dX1_putPairs_1 : decode cX1_putPairs 1 = .ok (.istore_n 3, 1) := by decide +kernel
theorem dX1_putPairs_2 : decode cX1_putPairs 2 = .ok (.iload_n 3, 1) := by decide +kernel
theorem dX1_putPairs_3 : decode cX1_putPairs 3 = .ok (.aload_n 1, 1) := by decide +kernel
theorem dX1_putPairs_4 : decode cX1_putPairs 4 = .ok (.getfield 9, 3) := by decide +kernel
theorem dX1_putPairs_7 : decode cX1_putPairs 7 = .ok (.if_icmp .ge 33, 3) := by decide +kernel
theorem dX1_putPairs_10 : decode cX1_putPairs 10 = .ok (.aload_n 1, 1) := by decide +kernel
theorem dX1_putPairs_11 : decode cX1_putPairs 11 = .ok (.iload_n 3, 1) := by decide +kernel
theorem dX1_putPairs_12 : decode cX1_putPairs 12 = .ok (.invokevirtual 73, 3) := by decide +kernel
theorem dX1_putPairs_15 : decode cX1_putPairs 15 = .ok (.ifCond .eq 19, 3) := by decide +kernel
theorem dX1_putPairs_18 : decode cX1_putPairs 18 = .ok (.aload_n 0, 1) := by decide +kernel
theorem dX1_putPairs_19 : decode cX1_putPairs 19 = .ok (.iload_n 3, 1) := by decide +kernel
theorem dX1_putPairs_20 : decode cX1_putPairs 20 = .ok (.aload_n 2, 1) := by decide +kernel
theorem dX1_putPairs_21 : decode cX1_putPairs 21 = .ok (.getfield 9, 3) := by decide +kernel
theorem dX1_putPairs_24 : decode cX1_putPairs 24 = .ok (.imul, 1) := by decide +kernel
theorem dX1_putPairs_25 : decode cX1_putPairs 25 = .ok (.aload_n 2, 1) := by decide +kernel
theorem dX1_putPairs_26 : decode cX1_putPairs 26 = .ok (.iconst 0, 1) := by decide +kernel
theorem dX1_putPairs_27 : decode cX1_putPairs 27 = .ok (.aload_n 2, 1) := by decide +kernel
theorem dX1_putPairs_28 : decode cX1_putPairs 28 = .ok (.getfield 9, 3) := by decide +kernel
theorem dX1_putPairs_31 : decode cX1_putPairs 31 = .ok (.invokevirtual 78, 3) := by decide +kernel
theorem dX1_putPairs_34 : decode cX1_putPairs 34 = .ok (.iinc 3 1, 3) := by decide +kernel
theorem dX1_putPairs_37 : decode cX1_putPairs 37 = .ok (.goto (-35), 3) := by decide +kernel
theorem dX1_putPairs_40 : decode cX1_putPairs 40 = .ok (.return_, 1) := by decide +kernel
theorem dX1_putBehind_0 : decode cX1_putBehind 0 = .ok (.iconst 0, 1) := by decide +kernel
theorem dX1_putBehind_1 : decode cX1_putBehind 1 = .ok (.istore 5, 2) := by decide +kernel
theorem dX1_putBehind_3 : decode cX1_putBehind 3 = .ok (.iload 5, 2) := by decide +kernel
theorem dX1_putBehind_5 : decode cX1_putBehind 5 = .ok (.iload 4, 2) := by decide +kernel
theorem dX1_putBehind_7 : decode cX1_putBehind 7 = .ok (.if_icmp .ge 28, 3) := by decide +kernel
theorem dX1_putBehind_10 : decode cX1_putBehind 10 = .ok (.aload_n 2, 1) := by decide +kernel
theorem dX1_putBehind_11 : decode cX1_putBehind 11 = .ok (.iload_n 3, 1) := by decide +kernel
theorem dX1_putBehind_12 : decode cX1_putBehind 12 = .ok (.iload 5, 2) := by decide +kernel
theorem dX1_putBehind_14 : decode cX1_putBehind 14 = .ok (.iadd, 1) := by decide +kernel
theorem dX1_putBehind_15 : decode cX1_putBehind 15 = .ok (.invokevirtual 73, 3) := by decide +kernel
theorem dX1_putBehind_18 : decode cX1_putBehind 18 = .ok (.ifCond .eq 11, 3) := by decide +kernel
theorem dX1_putBehind_21 : decode cX1_putBehind 21 = .ok (.aload_n 0, 1) := by decide +kernel
theorem dX1_putBehind_22 : decode cX1_putBehind 22 = .ok (.iload_n 1, 1) := by decide +kernel
theorem dX1_putBehind_23 : decode cX1_putBehind 23 = .ok (.iload 5, 2) := by decide +kernel
theorem dX1_putBehind_25 : decode cX1_putBehind 25 = .ok (.iadd, 1) := by decide +kernel
theorem dX1_putBehind_26 : decode cX1_putBehind 26 = .ok (.invokevirtual 82, 3) := by decide +kernel
theorem dX1_putBehind_29 : decode cX1_putBehind 29 = .ok (.iinc 5 1, 3) := by decide +kernel
theorem dX1_putBehind_32 : decode cX1_putBehind 32 = .ok (.goto (-29), 3) := by decide +kernel
theorem dX1_putBehind_35 : decode cX1_putBehind 35 = .ok (.return_, 1) := by decide +kernel
theorem dX1_putJoined_0 : decode cX1_putJoined 0 = .ok (.aload_n 2, 1) := by decide +kernel
theorem dX1_putJoined_1 : decode cX1_putJoined 1 = .ok (.getfield 15, 3) := by decide +kernel
theorem dX1_putJoined_4 : decode cX1_putJoined 4 = .ok (.iconst 0, 1) := by decide +kernel
theorem dX1_putJoined_5 : decode cX1_putJoined 5 = .ok (.iaload, 1) := by decide +kernel
theorem dX1_putJoined_6 : decode cX1_putJoined 6 = .ok (.istore_n 3, 1) := by decide +kernel
theorem dX1_putJoined_7 : decode cX1_putJoined 7 = .ok (.aload_n 2, 1) := by decide +kernel
theorem dX1_putJoined_8 : decode cX1_putJoined 8 = .ok (.iconst 1, 1) := by decide +kernel
theorem dX1_putJoined_9 : decode cX1_putJoined 9 = .ok (.aload_n 2, 1) := by decide +kernel
theorem dX1_putJoined_10 : decode cX1_putJoined 10 = .ok (.getfield 30, 3) := by decide +kernel
theorem dX1_putJoined_13 : decode cX1_putJoined 13 = .ok (.invokevirtual 86, 3) := by decide +kernel
theorem dX1_putJoined_16 : decode cX1_putJoined 16 = .ok (.istore 4, 2) := by decide +kernel
theorem dX1_putJoined_18 : decode cX1_putJoined 18 = .ok (.iconst 0, 1) := by decide +kernel
theorem dX1_putJoined_19 : decode cX1_putJoined 19 = .ok (.istore 5, 2) := by decide +kernel
theorem dX1_putJoined_21 : decode cX1_putJoined 21 = .ok (.iconst 0, 1) := by decide +kernel
theorem dX1_putJoined_22 : decode cX1_putJoined 22 = .ok (.istore 6, 2) := by decide +kernel
theorem dX1_putJoined_24 : decode cX1_putJoined 24 = .ok (.iload 6, 2) := by decide +kernel
theorem dX1_putJoined_26 : decode cX1_putJoined 26 = .ok (.aload_n 1, 1) := by decide +kernel
theorem dX1_putJoined_27 : decode cX1_putJoined 27 = .ok (.getfield 9, 3) := by decide +kernel
theorem dX1_putJoined_30 : decode cX1_putJoined 30 = .ok (.if_icmp .ge 53, 3) := by decide +kernel
theorem dX1_putJoined_33 : decode cX1_putJoined 33 = .ok (.aload_n 1, 1) := by decide +kernel
theorem dX1_putJoined_34 : decode cX1_putJoined 34 = .ok (.iload 6, 2) := by decide +kernel
theorem dX1_putJoined_36 : decode cX1_putJoined 36 = .ok (.invokevirtual 73, 3) := by decide +kernel
theorem dX1_putJoined_39 : decode cX1_putJoined 39 = .ok (.ifCond .eq 20, 3) := by decide +kernel
theorem dX1_putJoined_42 : decode cX1_putJoined 42 = .ok (.aload_n 0, 1) := by decide +kernel
theorem dX1_putJoined_43 : decode cX1_putJoined 43 = .ok (.iload 6, 2) := by decide +kernel
theorem dX1_putJoined_45 : decode cX1_putJoined 45 = .ok (.iload 4, 2) := by decide +kernel
theorem dX1_putJoined_47 : decode cX1_putJoined 47 = .ok (.imul, 1) := by decide +kernel
theorem dX1_putJoined_48 : decode cX1_putJoined 48 = .ok (.aload_n 2, 1) := by decide +kernel
theorem dX1_putJoined_49 : decode cX1_putJoined 49 = .ok (.iload 5, 2) := by decide +kernel
theorem dX1_putJoined_51 : decode cX1_putJoined 51 = .ok (.iload 4, 2) := by decide +kernel
theorem dX1_putJoined_53 : decode cX1_putJoined 53 = .ok (.imul, 1) := by decide +kernel
theorem dX1_putJoined_54 : decode cX1_putJoined 54 = .ok (.iload 4, 2) := by decide +kernel
theorem dX1_putJoined_56 : decode cX1_putJoined 56 = .ok (.invokevirtual 78, 3) := by decide +kernel
theorem dX1_putJoined_59 : decode cX1_putJoined 59 = .ok (.iload 5, 2) := by decide +kernel
theorem dX1_putJoined_61 : decode cX1_putJoined 61 = .ok (.iconst 1, 1) := by decide +kernel
theorem dX1_putJoined_62 : decode cX1_putJoined 62 = .ok (.iadd, 1) := by decide +kernel
theorem dX1_putJoined_63 : decode cX1_putJoined 63 = .ok (.iload_n 3, 1) := by decide +kernel
theorem dX1_putJoined_64 : decode cX1_putJoined 64 = .ok (.if_icmp .ge 10, 3) := by decide +kernel
theorem dX1_putJoined_67 : decode cX1_putJoined 67 = .ok (.iload 5, 2) := by decide +kernel
theorem dX1_putJoined_69 : decode cX1_putJoined 69 = .ok (.iconst 1, 1) := by decide +kernel
theorem dX1_putJoined_70 : decode cX1_putJoined 70 = .ok (.iadd, 1) := by decide +kernel
theorem dX1_putJoined_71 : decode cX1_putJoined 71 = .ok (.goto 4, 3) := by decide +kernel
theorem dX1_putJoined_74 : decode cX1_putJoined 74 = .ok (.iconst 0, 1) := by decide +kernel
theorem dX1_putJoined_75 : decode cX1_putJoined 75 = .ok (.istore 5, 2) := by decide +kernel
theorem dX1_putJoined_77 : decode cX1_putJoined 77 = .ok (.iinc 6 1, 3) := by decide +kernel
theorem dX1_putJoined_80 : decode cX1_putJoined 80 = .ok (.goto (-56), 3) := by decide +kernel
theorem dX1_putJoined_83 : decode cX1_putJoined 83 = .ok (.return_, 1) := by decide +kernel
theorem dX1_putLonger_0 : decode cX1_putLonger 0 = .ok (.iconst 0, 1) := by decide +kernel
theorem dX1_putLonger_1 : decode cX1_putLonger 1 = .ok (.istore_n 3, 1) := by decide +kernel
theorem dX1_putLonger_2 : decode cX1_putLonger 2 = .ok (.iload_n 3, 1) := by decide +kernel
theorem dX1_putLonger_3 : decode cX1_putLonger 3 = .ok (.aload_n 1, 1) := by decide +kernel
theorem dX1_putLonger_4 : decode cX1_putLonger 4 = .ok (.getfield 9, 3) := by decide +kernel
theorem dX1_putLonger_7 : decode cX1_putLonger 7 = .ok (.if_icmp .ge 42, 3) := by decide +kernel
theorem dX1_putLonger_10 : decode cX1_putLonger 10 = .ok (.aload_n 1, 1) := by decide +kernel
theorem dX1_putLonger_11 : decode cX1_putLonger 11 = .ok (.iload_n 3, 1) := by decide +kernel
theorem dX1_putLonger_12 : decode cX1_putLonger 12 = .ok (.invokevirtual 73, 3) := by decide +kernel
theorem dX1_putLonger_15 : decode cX1_putLonger 15 = .ok (.ifCond .eq 28, 3) := by decide +kernel
theorem dX1_putLonger_18 : decode cX1_putLonger 18 = .ok (.iconst 0, 1) := by decide +kernel
theorem dX1_putLonger_19 : decode cX1_putLonger 19 = .ok (.istore 4, 2) := by decide +kernel
theorem dX1_putLonger_21 : decode cX1_putLonger 21 = .ok (.iload 4, 2) := by decide +kernel
theorem dX1_putLonger_23 : decode cX1_putLonger 23 = .ok (.iload_n 2, 1) := by decide +kernel
theorem dX1_putLonger_24 : decode cX1_putLonger 24 = .ok (.if_icmp .ge 19, 3) := by decide +kernel
theorem dX1_putLonger_27 : decode cX1_putLonger 27 = .ok (.aload_n 0, 1) := by decide +kernel
theorem dX1_putLonger_28 : decode cX1_putLonger 28 = .ok (.iload_n 3, 1) := by decide +kernel
theorem dX1_putLonger_29 : decode cX1_putLonger 29 = .ok (.iload_n 2, 1) := by decide +kernel
theorem dX1_putLonger_30 : decode cX1_putLonger 30 = .ok (.imul, 1) := by decide +kernel
theorem dX1_putLonger_31 : decode cX1_putLonger 31 = .ok (.iload 4, 2) := by decide +kernel
theorem dX1_putLonger_33 : decode cX1_putLonger 33 = .ok (.iadd, 1) := by decide +kernel
theorem dX1_putLonger_34 : decode cX1_putLonger 34 = .ok (.invokevirtual 82, 3) := by decide +kernel
theorem dX1_putLonger_37 : decode cX1_putLonger 37 = .ok (.iinc 4 1, 3) := by decide +kernel
theorem dX1_putLonger_40 : decode cX1_putLonger 40 = .ok (.goto (-19), 3) := by decide +kernel
theorem dX1_putLonger_43 : decode cX1_putLonger 43 = .ok (.iinc 3 1, 3) := by decide +kernel
theorem dX1_putLonger_46 : decode cX1_putLonger 46 = .ok (.goto (-44), 3) := by decide +kernel
theorem dX1_putLonger_49 : decode cX1_putLonger 49 = .ok (.return_, 1) := by decide +kernel
theorem dX1_putShorter_0 : decode cX1_putShorter 0 = .ok (.aload_n 1, 1) := by decide +kernel
theorem dX1_putShorter_1 : decode cX1_putShorter 1 = .ok (.getfield 15, 3) := by decide +kernel
theorem dX1_putShorter_4 : decode cX1_putShorter 4 = .ok (.iload_n 2, 1) := by decide +kernel
theorem dX1_putShorter_5 : decode cX1_putShorter 5 = .ok (.iaload, 1) := by decide +kernel
theorem dX1_putShorter_6 : decode cX1_putShorter 6 = .ok (.istore 4, 2) := by decide +kernel
theorem dX1_putShorter_8 : decode cX1_putShorter 8 = .ok (.aload_n 1, 1) := by decide +kernel
theorem dX1_putShorter_9 : decode cX1_putShorter 9 = .ok (.iconst 0, 1) := by decide +kernel
theorem dX1_putShorter_10 : decode cX1_putShorter 10 = .ok (.iload_n 2, 1) := by decide +kernel
theorem dX1_putShorter_11 : decode cX1_putShorter 11 = .ok (.invokevirtual 86, 3) := by decide +kernel
theorem dX1_putShorter_14 : decode cX1_putShorter 14 = .ok (.istore 5, 2) := by decide +kernel
theorem dX1_putShorter_16 : decode cX1_putShorter 16 = .ok (.aload_n 1, 1) := by decide +kernel
theorem dX1_putShorter_17 : decode cX1_putShorter 17 = .ok (.iload_n 2, 1) := by decide +kernel
theorem dX1_putShorter_18 : decode cX1_putShorter 18 = .ok (.iconst 1, 1) := by decide +kernel
theorem dX1_putShorter_19 : decode cX1_putShorter 19 = .ok (.iadd, 1) := by decide +kernel
theorem dX1_putShorter_20 : decode cX1_putShorter 20 = .ok (.aload_n 1, 1) := by decide +kernel
theorem dX1_putShorter_21 : decode cX1_putShorter 21 = .ok (.getfield 30, 3) := by decide +kernel
theorem dX1_putShorter_24 : decode cX1_putShorter 24 = .ok (.invokevirtual 86, 3) := by decide +kernel
theorem dX1_putShorter_27 : decode cX1_putShorter 27 = .ok (.istore 6, 2) := by decide +kernel
theorem dX1_putShorter_29 : decode cX1_putShorter 29 = .ok (.iconst 0, 1) := by decide +kernel
theorem dX1_putShorter_30 : decode cX1_putShorter 30 = .ok (.istore 7, 2) := by decide +kernel
theorem dX1_putShorter_32 : decode cX1_putShorter 32 = .ok (.iload 7, 2) := by decide +kernel
theorem dX1_putShorter_34 : decode cX1_putShorter 34 = .ok (.iload 5, 2) := by decide +kernel
theorem dX1_putShorter_36 : decode cX1_putShorter 36 = .ok (.if_icmp .ge 31, 3) := by decide +kernel
theorem dX1_putShorter_39 : decode cX1_putShorter 39 = .ok (.aload_n 0, 1) := by decide +kernel
theorem dX1_putShorter_40 : decode cX1_putShorter 40 = .ok (.iload 7, 2) := by decide +kernel
theorem dX1_putShorter_42 : decode cX1_putShorter 42 = .ok (.iload 6, 2) := by decide +kernel
theorem dX1_putShorter_44 : decode cX1_putShorter 44 = .ok (.imul, 1) := by decide +kernel
theorem dX1_putShorter_45 : decode cX1_putShorter 45 = .ok (.aload_n 1, 1) := by decide +kernel
theorem dX1_putShorter_46 : decode cX1_putShorter 46 = .ok (.iload 7, 2) := by decide +kernel
theorem dX1_putShorter_48 : decode cX1_putShorter 48 = .ok (.iload 4, 2) := by decide +kernel
theorem dX1_putShorter_50 : decode cX1_putShorter 50 = .ok (.imul, 1) := by decide +kernel
theorem dX1_putShorter_51 : decode cX1_putShorter 51 = .ok (.iload_n 3, 1) := by decide +kernel
theorem dX1_putShorter_52 : decode cX1_putShorter 52 = .ok (.iadd, 1) := by decide +kernel
theorem dX1_putShorter_53 : decode cX1_putShorter 53 = .ok (.iload 6, 2) := by decide +kernel
theorem dX1_putShorter_55 : decode cX1_putShorter 55 = .ok (.imul, 1) := by decide +kernel
theorem dX1_putShorter_56 : decode cX1_putShorter 56 = .ok (.iload 6, 2) := by decide +kernel
theorem dX1_putShorter_58 : decode cX1_putShorter 58 = .ok (.invokevirtual 78, 3) := by decide +kernel
theorem dX1_putShorter_61 : decode cX1_putShorter 61 = .ok (.iinc 7 1, 3) := by decide +kernel
theorem dX1_putShorter_64 : decode cX1_putShorter 64 = .ok (.goto (-32), 3) := by decide +kernel
theorem dX1_putShorter_67 : decode cX1_putShorter 67 = .ok (.return_, 1) := by decide +kernel
theorem dX1_putShifted_0 : decode cX1_putShifted 0 = .ok (.aload_n 1, 1) := by decide +kernel
theorem dX1_putShifted_1 : decode cX1_putShifted 1 = .ok (.getfield 15, 3) := by decide +kernel
theorem dX1_putShifted_4 : decode cX1_putShifted 4 = .ok (.iload_n 2, 1) := by decide +kernel
theorem dX1_putShifted_5 : decode cX1_putShifted 5 = .ok (.iaload, 1) := by decide +kernel
theorem dX1_putShifted_6 : decode cX1_putShifted 6 = .ok (.istore 4, 2) := by decide +kernel
theorem dX1_putShifted_8 : decode cX1_putShifted 8 = .ok (.aload_n 1, 1) := by decide +kernel
theorem dX1_putShifted_9 : decode cX1_putShifted 9 = .ok (.iconst 0, 1) := by decide +kernel
theorem dX1_putShifted_10 : decode cX1_putShifted 10 = .ok (.iload_n 2, 1) := by decide +kernel
theorem dX1_putShifted_11 : decode cX1_putShifted 11 = .ok (.invokevirtual 86, 3) := by decide +kernel
theorem dX1_putShifted_14 : decode cX1_putShifted 14 = .ok (.istore 5, 2) := by decide +kernel
theorem dX1_putShifted_16 : decode cX1_putShifted 16 = .ok (.aload_n 1, 1) := by decide +kernel
theorem dX1_putShifted_17 : decode cX1_putShifted 17 = .ok (.iload_n 2, 1) := by decide +kernel
theorem dX1_putShifted_18 : decode cX1_putShifted 18 = .ok (.iconst 1, 1) := by decide +kernel
theorem dX1_putShifted_19 : decode cX1_putShifted 19 = .ok (.iadd, 1) := by decide +kernel
theorem dX1_putShifted_20 : decode cX1_putShifted 20 = .ok (.aload_n 1, 1) := by decide +kernel
theorem dX1_putShifted_21 : decode cX1_putShifted 21 = .ok (.getfield 30, 3) := by decide +kernel
theorem dX1_putShifted_24 : decode cX1_putShifted 24 = .ok (.invokevirtual 86, 3) := by decide +kernel
theorem dX1_putShifted_27 : decode cX1_putShifted 27 = .ok (.istore 6, 2) := by decide +kernel
theorem dX1_putShifted_29 : decode cX1_putShifted 29 = .ok (.iload 4, 2) := by decide +kernel
theorem dX1_putShifted_31 : decode cX1_putShifted 31 = .ok (.iconst 2, 1) := by decide +kernel
theorem dX1_putShifted_32 : decode cX1_putShifted 32 = .ok (.if_icmp .ge 4, 3) := by decide +kernel
theorem dX1_putShifted_35 : decode cX1_putShifted 35 = .ok (.return_, 1) := by decide +kernel
theorem dX1_putShifted_36 : decode cX1_putShifted 36 = .ok (.iconst 0, 1) := by decide +kernel
theorem dX1_putShifted_37 : decode cX1_putShifted 37 = .ok (.istore 7, 2) := by decide +kernel
theorem dX1_putShifted_39 : decode cX1_putShifted 39 = .ok (.iload 7, 2) := by decide +kernel
theorem dX1_putShifted_41 : decode cX1_putShifted 41 = .ok (.iload 5, 2) := by decide +kernel
theorem dX1_putShifted_43 : decode cX1_putShifted 43 = .ok (.if_icmp .ge 67, 3) := by decide +kernel
theorem dX1_putShifted_46 : decode cX1_putShifted 46 = .ok (.iconst 0, 1) := by decide +kernel
theorem dX1_putShifted_47 : decode cX1_putShifted 47 = .ok (.istore 8, 2) := by decide +kernel
theorem dX1_putShifted_49 : decode cX1_putShifted 49 = .ok (.iload 8, 2) := by decide +kernel
theorem dX1_putShifted_51 : decode cX1_putShifted 51 = .ok (.iload 4, 2) := by decide +kernel
theorem dX1_putShifted_53 : decode cX1_putShifted 53 = .ok (.if_icmp .ge 51, 3) := by decide +kernel
theorem dX1_putShifted_56 : decode cX1_putShifted 56 = .ok (.iload 8, 2) := by decide +kernel
theorem dX1_putShifted_58 : decode cX1_putShifted 58 = .ok (.iload_n 3, 1) := by decide +kernel
theorem dX1_putShifted_59 : decode cX1_putShifted 59 = .ok (.iadd, 1) := by decide +kernel
theorem dX1_putShifted_60 : decode cX1_putShifted 60 = .ok (.iload 4, 2) := by decide +kernel
theorem dX1_putShifted_62 : decode cX1_putShifted 62 = .ok (.irem, 1) := by decide +kernel
theorem dX1_putShifted_63 : decode cX1_putShifted 63 = .ok (.istore 9, 2) := by decide +kernel
theorem dX1_putShifted_65 : decode cX1_putShifted 65 = .ok (.iload 7, 2) := by decide +kernel
theorem dX1_putShifted_67 : decode cX1_putShifted 67 = .ok (.iload 4, 2) := by decide +kernel
theorem dX1_putShifted_69 : decode cX1_putShifted 69 = .ok (.imul, 1) := by decide +kernel
theorem dX1_putShifted_70 : decode cX1_putShifted 70 = .ok (.iload 9, 2) := by decide +kernel
theorem dX1_putShifted_72 : decode cX1_putShifted 72 = .ok (.iadd, 1) := by decide +kernel
theorem dX1_putShifted_73 : decode cX1_putShifted 73 = .ok (.iload 6, 2) := by decide +kernel
theorem dX1_putShifted_75 : decode cX1_putShifted 75 = .ok (.imul, 1) := by decide +kernel
theorem dX1_putShifted_76 : decode cX1_putShifted 76 = .ok (.istore 10, 2) := by decide +kernel
theorem dX1_putShifted_78 : decode cX1_putShifted 78 = .ok (.aload_n 0, 1) := by decide +kernel
theorem dX1_putShifted_79 : decode cX1_putShifted 79 = .ok (.iload 10, 2) := by decide +kernel
theorem dX1_putShifted_81 : decode cX1_putShifted 81 = .ok (.aload_n 1, 1) := by decide +kernel
theorem dX1_putShifted_82 : decode cX1_putShifted 82 = .ok (.iload 7, 2) := by decide +kernel
theorem dX1_putShifted_84 : decode cX1_putShifted 84 = .ok (.iload 4, 2) := by decide +kernel
theorem dX1_putShifted_86 : decode cX1_putShifted 86 = .ok (.imul, 1) := by decide +kernel
theorem dX1_putShifted_87 : decode cX1_putShifted 87 = .ok (.iload 8, 2) := by decide +kernel
theorem dX1_putShifted_89 : decode cX1_putShifted 89 = .ok (.iadd, 1) := by decide +kernel
theorem dX1_putShifted_90 : decode cX1_putShifted 90 = .ok (.iload 6, 2) := by decide +kernel
theorem dX1_putShifted_92 : decode cX1_putShifted 92 = .ok (.imul, 1) := by decide +kernel
theorem dX1_putShifted_93 : decode cX1_putShifted 93 = .ok (.iload 6, 2) := by decide +kernel
theorem dX1_putShifted_95 : decode cX1_putShifted 95 = .ok (.invokevirtual 78, 3) := by decide +kernel
theorem dX1_putShifted_98 : decode cX1_putShifted 98 = .ok (.iinc 8 1, 3) := by decide +kernel
theorem dX1_putShifted_101 : decode cX1_putShifted 101 = .ok (.goto (-52), 3) := by decide +kernel
theorem dX1_putShifted_104 : decode cX1_putShifted 104 = .ok (.iinc 7 1, 3) := by decide +kernel
theorem dX1_putShifted_107 : decode cX1_putShifted 107 = .ok (.goto (-68), 3) := by decide +kernel
theorem dX1_putShifted_110 : decode cX1_putShifted 110 = .ok (.return_, 1) := by decide +kernel
theorem dX1_putSwapped_0 : decode cX1_putSwapped 0 = .ok (.iconst 0, 1) := by decide +kernel
theorem dX1_putSwapped_1 : decode cX1_putSwapped 1 = .ok (.istore 5, 2) := by decide +kernel
theorem dX1_putSwapped_3 : decode cX1_putSwapped 3 = .ok (.iload 5, 2) := by decide +kernel
theorem dX1_putSwapped_5 : decode cX1_putSwapped 5 = .ok (.aload_n 1, 1) := by decide +kernel
theorem dX1_putSwapped_6 : decode cX1_putSwapped 6 = .ok (.getfield 9, 3) := by decide +kernel
theorem dX1_putSwapped_9 : decode cX1_putSwapped 9 = .ok (.if_icmp .ge 76, 3) := by decide +kernel
theorem dX1_putSwapped_12 : decode cX1_putSwapped 12 = .ok (.aload_n 1, 1) := by decide +kernel
theorem dX1_putSwapped_13 : decode cX1_putSwapped 13 = .ok (.iload 5, 2) := by decide +kernel
theorem dX1_putSwapped_15 : decode cX1_putSwapped 15 = .ok (.invokevirtual 73, 3) := by decide +kernel
theorem dX1_putSwapped_18 : decode cX1_putSwapped 18 = .ok (.ifCond .eq 61, 3) := by decide +kernel
theorem dX1_putSwapped_21 : decode cX1_putSwapped 21 = .ok (.iconst 0, 1) := by decide +kernel
theorem dX1_putSwapped_22 : decode cX1_putSwapped 22 = .ok (.istore 6, 2) := by decide +kernel
theorem dX1_putSwapped_24 : decode cX1_putSwapped 24 = .ok (.iconst 0, 1) := by decide +kernel
theorem dX1_putSwapped_25 : decode cX1_putSwapped 25 = .ok (.istore 7, 2) := by decide +kernel
theorem dX1_putSwapped_27 : decode cX1_putSwapped 27 = .ok (.iload 7, 2) := by decide +kernel
theorem dX1_putSwapped_29 : decode cX1_putSwapped 29 = .ok (.aload_n 1, 1) := by decide +kernel
theorem dX1_putSwapped_30 : decode cX1_putSwapped 30 = .ok (.getfield 30, 3) := by decide +kernel
theorem dX1_putSwapped_33 : decode cX1_putSwapped 33 = .ok (.if_icmp .ge 40, 3) := by decide +kernel
theorem dX1_putSwapped_36 : decode cX1_putSwapped 36 = .ok (.iload 7, 2) := by decide +kernel
theorem dX1_putSwapped_38 : decode cX1_putSwapped 38 = .ok (.iload_n 3, 1) := by decide +kernel
theorem dX1_putSwapped_39 : decode cX1_putSwapped 39 = .ok (.iload 4, 2) := by decide +kernel
theorem dX1_putSwapped_41 : decode cX1_putSwapped 41 = .ok (.invokestatic 69, 3) := by decide +kernel
theorem dX1_putSwapped_44 : decode cX1_putSwapped 44 = .ok (.istore 8, 2) := by decide +kernel
theorem dX1_putSwapped_46 : decode cX1_putSwapped 46 = .ok (.iload 6, 2) := by decide +kernel
theorem dX1_putSwapped_48 : decode cX1_putSwapped 48 = .ok (.aload_n 1, 1) := by decide +kernel
theorem dX1_putSwapped_49 : decode cX1_putSwapped 49 = .ok (.getfield 15, 3) := by decide +kernel
theorem dX1_putSwapped_52 : decode cX1_putSwapped 52 = .ok (.iload 8, 2) := by decide +kernel
theorem dX1_putSwapped_54 : decode cX1_putSwapped 54 = .ok (.iaload, 1) := by decide +kernel
theorem dX1_putSwapped_55 : decode cX1_putSwapped 55 = .ok (.imul, 1) := by decide +kernel
theorem dX1_putSwapped_56 : decode cX1_putSwapped 56 = .ok (.aload_n 2, 1) := by decide +kernel
theorem dX1_putSwapped_57 : decode cX1_putSwapped 57 = .ok (.iload 5, 2) := by decide +kernel
theorem dX1_putSwapped_59 : decode cX1_putSwapped 59 = .ok (.iload 8, 2) := by decide +kernel
theorem dX1_putSwapped_61 : decode cX1_putSwapped 61 = .ok (.invokevirtual 90, 3) := by decide +kernel
theorem dX1_putSwapped_64 : decode cX1_putSwapped 64 = .ok (.iadd, 1) := by decide +kernel
theorem dX1_putSwapped_65 : decode cX1_putSwapped 65 = .ok (.istore 6, 2) := by decide +kernel
theorem dX1_putSwapped_67 : decode cX1_putSwapped 67 = .ok (.iinc 7 1, 3) := by decide +kernel
theorem dX1_putSwapped_70 : decode cX1_putSwapped 70 = .ok (.goto (-43), 3) := by decide +kernel
theorem dX1_putSwapped_73 : decode cX1_putSwapped 73 = .ok (.aload_n 0, 1) := by decide +kernel
theorem dX1_putSwapped_74 : decode cX1_putSwapped 74 = .ok (.iload 6, 2) := by decide +kernel
theorem dX1_putSwapped_76 : decode cX1_putSwapped 76 = .ok (.invokevirtual 82, 3) := by decide +kernel
theorem dX1_putSwapped_79 : decode cX1_putSwapped 79 = .ok (.iinc 5 1, 3) := by decide +kernel
theorem dX1_putSwapped_82 : decode cX1_putSwapped 82 = .ok (.goto (-79), 3) := by decide +kernel
theorem dX1_putSwapped_85 : decode cX1_putSwapped 85 = .ok (.return_, 1) := by decide +kernel
theorem dX1_putMixed_0 : decode cX1_putMixed 0 = .ok (.iconst 0, 1) := by decide +kernel
theorem dX1_putMixed_1 : decode cX1_putMixed 1 = .ok (.istore 4, 2) := by decide +kernel
theorem dX1_putMixed_3 : decode cX1_putMixed 3 = .ok (.iload 4, 2) := by decide +kernel
theorem dX1_putMixed_5 : decode cX1_putMixed 5 = .ok (.aload_n 0, 1) := by decide +kernel
theorem dX1_putMixed_6 : decode cX1_putMixed 6 = .ok (.getfield 9, 3) := by decide +kernel
theorem dX1_putMixed_9 : decode cX1_putMixed 9 = .ok (.if_icmp .ge 85, 3) := by decide +kernel
theorem dX1_putMixed_12 : decode cX1_putMixed 12 = .ok (.aload_n 1, 1) := by decide +kernel
theorem dX1_putMixed_13 : decode cX1_putMixed 13 = .ok (.iload 4, 2) := by decide +kernel
theorem dX1_putMixed_15 : decode cX1_putMixed 15 = .ok (.invokevirtual 73, 3) := by decide +kernel
theorem dX1_putMixed_18 : decode cX1_putMixed 18 = .ok (.istore 5, 2) := by decide +kernel
theorem dX1_putMixed_20 : decode cX1_putMixed 20 = .ok (.aload_n 2, 1) := by decide +kernel
theorem dX1_putMixed_21 : decode cX1_putMixed 21 = .ok (.iload 4, 2) := by decide +kernel
theorem dX1_putMixed_23 : decode cX1_putMixed 23 = .ok (.invokevirtual 73, 3) := by decide +kernel
theorem dX1_putMixed_26 : decode cX1_putMixed 26 = .ok (.istore 6, 2) := by decide +kernel
theorem dX1_putMixed_28 : decode cX1_putMixed 28 = .ok (.iload_n 3, 1) := by decide +kernel
theorem dX1_putMixed_29 : decode cX1_putMixed 29 = .ok (.ifCond .ne 21, 3) := by decide +kernel
theorem dX1_putMixed_32 : decode cX1_putMixed 32 = .ok (.iload 5, 2) := by decide +kernel
theorem dX1_putMixed_34 : decode cX1_putMixed 34 = .ok (.ifCond .ne 8, 3) := by decide +kernel
theorem dX1_putMixed_37 : decode cX1_putMixed 37 = .ok (.iload 6, 2) := by decide +kernel
theorem dX1_putMixed_39 : decode cX1_putMixed 39 = .ok (.ifCond .eq 7, 3) := by decide +kernel
theorem dX1_putMixed_42 : decode cX1_putMixed 42 = .ok (.iconst 1, 1) := by decide +kernel
theorem dX1_putMixed_43 : decode cX1_putMixed 43 = .ok (.goto 32, 3) := by decide +kernel
theorem dX1_putMixed_46 : decode cX1_putMixed 46 = .ok (.iconst 0, 1) := by decide +kernel
theorem dX1_putMixed_47 : decode cX1_putMixed 47 = .ok (.goto 28, 3) := by decide +kernel
theorem dX1_putMixed_50 : decode cX1_putMixed 50 = .ok (.iload 5, 2) := by decide +kernel
theorem dX1_putMixed_52 : decode cX1_putMixed 52 = .ok (.ifCond .eq 22, 3) := by decide +kernel
theorem dX1_putMixed_55 : decode cX1_putMixed 55 = .ok (.iload 6, 2) := by decide +kernel
theorem dX1_putMixed_57 : decode cX1_putMixed 57 = .ok (.iload_n 3, 1) := by decide +kernel
theorem dX1_putMixed_58 : decode cX1_putMixed 58 = .ok (.iconst 1, 1) := by decide +kernel
theorem dX1_putMixed_59 : decode cX1_putMixed 59 = .ok (.if_icmp .ne 7, 3) := by decide +kernel
theorem dX1_putMixed_62 : decode cX1_putMixed 62 = .ok (.iconst 1, 1) := by decide +kernel
theorem dX1_putMixed_63 : decode cX1_putMixed 63 = .ok (.goto 4, 3) := by decide +kernel
theorem dX1_putMixed_66 : decode cX1_putMixed 66 = .ok (.iconst 0, 1) := by decide +kernel
theorem dX1_putMixed_67 : decode cX1_putMixed 67 = .ok (.if_icmp .ne 7, 3) := by decide +kernel
theorem dX1_putMixed_70 : decode cX1_putMixed 70 = .ok (.iconst 1, 1) := by decide +kernel
theorem dX1_putMixed_71 : decode cX1_putMixed 71 = .ok (.goto 4, 3) := by decide +kernel
theorem dX1_putMixed_74 : decode cX1_putMixed 74 = .ok (.iconst 0, 1) := by decide +kernel
theorem dX1_putMixed_75 : decode cX1_putMixed 75 = .ok (.istore 7, 2) := by decide +kernel
theorem dX1_putMixed_77 : decode cX1_putMixed 77 = .ok (.iload 7, 2) := by decide +kernel
theorem dX1_putMixed_79 : decode cX1_putMixed 79 = .ok (.ifCond .eq 9, 3) := by decide +kernel
theorem dX1_putMixed_82 : decode cX1_putMixed 82 = .ok (.aload_n 0, 1) := by decide +kernel
theorem dX1_putMixed_83 : decode cX1_putMixed 83 = .ok (.iload 4, 2) := by decide +kernel
theorem dX1_putMixed_85 : decode cX1_putMixed 85 = .ok (.invokevirtual 82, 3) := by decide +kernel
theorem dX1_putMixed_88 : decode cX1_putMixed 88 = .ok (.iinc 4 1, 3) := by decide +kernel
theorem dX1_putMixed_91 : decode cX1_putMixed 91 = .ok (.goto (-88), 3) := by decide +kernel
theorem dX1_putMixed_94 : decode cX1_putMixed 94 = .ok (.return_, 1) := by decide +kernel
theorem dX2_init_0 : decode cX2_init 0 = .ok (.aload_n 0, 1) := by decide +kernel
theorem dX2_init_1 : decode cX2_init 1 = .ok (.invokespecial 3, 3) := by decide +kernel
theorem dX2_init_4 : decode cX2_init 4 = .ok (.aload_n 0, 1) := by decide +kernel
theorem dX2_init_5 : decode cX2_init 5 = .ok (.new 9, 3) := by decide +kernel
theorem dX2_init_8 : decode cX2_init 8 = .ok (.dup, 1) := by decide +kernel
theorem dX2_init_9 : decode cX2_init 9 = .ok (.invokespecial 11, 3) := by decide +kernel
theorem dX2_init_12 : decode cX2_init 12 = .ok (.putfield 12, 3) := by decide +kernel
theorem dX2_init_15 : decode cX2_init 15 = .ok (.return_, 1) := by decide +kernel
theorem dX2_run_0 : decode cX2_run 0 = .ok (.aload_n 0, 1) := by decide +kernel
theorem dX2_run_1 : decode cX2_run 1 = .ok (.getfield 12, 3) := by decide +kernel
theorem dX2_run_4 : decode cX2_run 4 = .ok (.aload_n 2, 1) := by decide +kernel
theorem dX2_run_5 : decode cX2_run 5 = .ok (.iload_n 3, 1) := by decide +kernel
theorem dX2_run_6 : decode cX2_run 6 = .ok (.invokevirtual 18, 3) := by decide +kernel
theorem dX2_run_9 : decode cX2_run 9 = .ok (.iconst 0, 1) := by decide +kernel
theorem dX2_run_10 : decode cX2_run 10 = .ok (.istore 4, 2) := by decide +kernel
theorem dX2_run_12 : decode cX2_run 12 = .ok (.iload 4, 2) := by decide +kernel
theorem dX2_run_14 : decode cX2_run 14 = .ok (.bipush 99, 2) := by decide +kernel
theorem dX2_run_16 : decode cX2_run 16 = .ok (.if_icmp .ge 41, 3) := by decide +kernel
theorem dX2_run_19 : decode cX2_run 19 = .ok (.aload_n 0, 1) := by decide +kernel
theorem dX2_run_20 : decode cX2_run 20 = .ok (.aload_n 1, 1) := by decide +kernel
theorem dX2_run_21 : decode cX2_run 21 = .ok (.invokevirtual 22, 3) := by decide +kernel
theorem dX2_run_24 : decode cX2_run 24 = .ok (.aload_n 0, 1) := by decide +kernel
theorem dX2_run_25 : decode cX2_run 25 = .ok (.getfield 26, 3) := by decide +kernel
theorem dX2_run_28 : decode cX2_run 28 = .ok (.iconst (-1), 1) := by decide +kernel
theorem dX2_run_29 : decode cX2_run 29 = .ok (.if_icmp .ne 6, 3) := by decide +kernel
theorem dX2_run_32 : decode cX2_run 32 = .ok (.iload 4, 2) := by decide +kernel
theorem dX2_run_34 : decode cX2_run 34 = .ok (.ireturn, 1) := by decide +kernel
theorem dX2_run_35 : decode cX2_run 35 = .ok (.aload_n 1, 1) := by decide +kernel
theorem dX2_run_36 : decode cX2_run 36 = .ok (.aload_n 0, 1) := by decide +kernel
theorem dX2_run_37 : decode cX2_run 37 = .ok (.getfield 26, 3) := by decide +kernel
theorem dX2_run_40 : decode cX2_run 40 = .ok (.invokevirtual 30, 3) := by decide +kernel
theorem dX2_run_43 : decode cX2_run 43 = .ok (.aload_n 1, 1) := by decide +kernel
theorem dX2_run_44 : decode cX2_run 44 = .ok (.aload_n 0, 1) := by decide +kernel
theorem dX2_run_45 : decode cX2_run 45 = .ok (.getfield 36, 3) := by decide +kernel
theorem dX2_run_48 : decode cX2_run 48 = .ok (.invokevirtual 39, 3) := by decide +kernel
theorem dX2_run_51 : decode cX2_run 51 = .ok (.iinc 4 1, 3) := by decide +kernel
theorem dX2_run_54 : decode cX2_run 54 = .ok (.goto (-42), 3) := by decide +kernel
theorem dX2_run_57 : decode cX2_run 57 = .ok (.bipush 99, 2) := by decide +kernel
theorem dX2_run_59 : decode cX2_run 59 = .ok (.ireturn, 1) := by decide +kernel
theorem dX2_findBest_0 : decode cX2_findBest 0 = .ok (.aload_n 0, 1) := by decide +kernel
theorem dX2_findBest_1 : decode cX2_findBest 1 = .ok (.aload_n 1, 1) := by decide +kernel
theorem dX2_findBest_2 : decode cX2_findBest 2 = .ok (.invokevirtual 42, 3) := by decide +kernel
theorem dX2_findBest_5 : decode cX2_findBest 5 = .ok (.aload_n 0, 1) := by decide +kernel
theorem dX2_findBest_6 : decode cX2_findBest 6 = .ok (.iconst (-1), 1) := by decide +kernel
theorem dX2_findBest_7 : decode cX2_findBest 7 = .ok (.putfield 26, 3) := by decide +kernel
theorem dX2_findBest_10 : decode cX2_findBest 10 = .ok (.aload_n 0, 1) := by decide +kernel
theorem dX2_findBest_11 : decode cX2_findBest 11 = .ok (.iconst (-1), 1) := by decide +kernel
theorem dX2_findBest_12 : decode cX2_findBest 12 = .ok (.putfield 36, 3) := by decide +kernel
theorem dX2_findBest_15 : decode cX2_findBest 15 = .ok (.aload_n 0, 1) := by decide +kernel
theorem dX2_findBest_16 : decode cX2_findBest 16 = .ok (.aload_n 0, 1) := by decide +kernel
theorem dX2_findBest_17 : decode cX2_findBest 17 = .ok (.getfield 45, 3) := by decide +kernel
theorem dX2_findBest_20 : decode cX2_findBest 20 = .ok (.aload_n 0, 1) := by decide +kernel
theorem dX2_findBest_21 : decode cX2_findBest 21 = .ok (.getfield 49, 3) := by decide +kernel
theorem dX2_findBest_24 : decode cX2_findBest 24 = .ok (.invokestatic 52, 3) := by decide +kernel
theorem dX2_findBest_27 : decode cX2_findBest 27 = .ok (.putfield 56, 3) := by decide +kernel
theorem dX2_findBest_30 : decode cX2_findBest 30 = .ok (.iconst 0, 1) := by decide +kernel
theorem dX2_findBest_31 : decode cX2_findBest 31 = .ok (.istore_n 2, 1) := by decide +kernel
theorem dX2_findBest_32 : decode cX2_findBest 32 = .ok (.iload_n 2, 1) := by decide +kernel
theorem dX2_findBest_33 : decode cX2_findBest 33 = .ok (.aload_n 0, 1) := by decide +kernel
theorem dX2_findBest_34 : decode cX2_findBest 34 = .ok (.getfield 12, 3) := by decide +kernel
theorem dX2_findBest_37 : decode cX2_findBest 37 = .ok (.getfield 59, 3) := by decide +kernel
theorem dX2_findBest_40 : decode cX2_findBest 40 = .ok (.if_icmp .ge 23, 3) := by decide +kernel
theorem dX2_findBest_43 : decode cX2_findBest 43 = .ok (.aload_n 1, 1) := by decide +kernel
theorem dX2_findBest_44 : decode cX2_findBest 44 = .ok (.iload_n 2, 1) := by decide +kernel
theorem dX2_findBest_45 : decode cX2_findBest 45 = .ok (.invokevirtual 62, 3) := by decide +kernel
theorem dX2_findBest_48 : decode cX2_findBest 48 = .ok (.ifCond .eq 9, 3) := by decide +kernel
theorem dX2_findBest_51 : decode cX2_findBest 51 = .ok (.aload_n 0, 1) := by decide +kernel
theorem dX2_findBest_52 : decode cX2_findBest 52 = .ok (.aload_n 1, 1) := by decide +kernel
theorem dX2_findBest_53 : decode cX2_findBest 53 = .ok (.iload_n 2, 1) := by decide +kernel
theorem dX2_findBest_54 : decode cX2_findBest 54 = .ok (.invokevirtual 66, 3) := by decide +kernel
theorem dX2_findBest_57 : decode cX2_findBest 57 = .ok (.iinc 2 1, 3) := by decide +kernel
theorem dX2_findBest_60 : decode cX2_findBest 60 = .ok (.goto (-28), 3) := by decide +kernel
theorem dX2_findBest_63 : decode cX2_findBest 63 = .ok (.return_, 1) := by decide +kernel
theorem dX2_sortWords_0 : decode cX2_sortWords 0 = .ok (.lconst 0, 1) := by decide +kernel
theorem dX2_sortWords_1 : decode cX2_sortWords 1 = .ok (.lstore_n 2, 1) := by decide +kernel
theorem dX2_sortWords_2 : decode cX2_sortWords 2 = .ok (.lconst 0, 1) := by decide +kernel
theorem dX2_sortWords_3 : decode cX2_sortWords 3 = .ok (.lstore 4, 2) := by decide +kernel
theorem dX2_sortWords_5 : decode cX2_sortWords 5 = .ok (.lconst 0, 1) := by decide +kernel
theorem dX2_sortWords_6 : decode cX2_sortWords 6 = .ok (.lstore 6, 2) := by decide +kernel
theorem dX2_sortWords_8 : decode cX2_sortWords 8 = .ok (.lconst 0, 1) := by decide +kernel
theorem dX2_sortWords_9 : decode cX2_sortWords 9 = .ok (.lstore 8, 2) := by decide +kernel
theorem dX2_sortWords_11 : decode cX2_sortWords 11 = .ok (.iconst 0, 1) := by decide +kernel
theorem dX2_sortWords_12 : decode cX2_sortWords 12 = .ok (.istore 10, 2) := by decide +kernel
theorem dX2_sortWords_14 : decode cX2_sortWords 14 = .ok (.iload 10, 2) := by decide +kernel
theorem dX2_sortWords_16 : decode cX2_sortWords 16 = .ok (.aload_n 0, 1) := by decide +kernel
theorem dX2_sortWords_17 : decode cX2_sortWords 17 = .ok (.getfield 12, 3) := by decide +kernel
theorem dX2_sortWords_20 : decode cX2_sortWords 20 = .ok (.getfield 59, 3) := by decide +kernel
theorem dX2_sortWords_23 : decode cX2_sortWords 23 = .ok (.if_icmp .ge 81, 3) := by decide +kernel
theorem dX2_sortWords_26 : decode cX2_sortWords 26 = .ok (.aload_n 1, 1) := by decide +kernel
theorem dX2_sortWords_27 : decode cX2_sortWords 27 = .ok (.iload 10, 2) := by decide +kernel
theorem dX2_sortWords_29 : decode cX2_sortWords 29 = .ok (.invokevirtual 62, 3) := by decide +kernel
theorem dX2_sortWords_32 : decode cX2_sortWords 32 = .ok (.ifCond .eq 66, 3) := by decide +kernel
theorem dX2_sortWords_35 : decode cX2_sortWords 35 = .ok (.lload 6, 2) := by decide +kernel
theorem dX2_sortWords_37 : decode cX2_sortWords 37 = .ok (.lload_n 2, 1) := by decide +kernel
theorem dX2_sortWords_38 : decode cX2_sortWords 38 = .ok (.aload_n 0, 1) := by decide +kernel
theorem dX2_sortWords_39 : decode cX2_sortWords 39 = .ok (.getfield 12, 3) := by decide +kernel
theorem dX2_sortWords_42 : decode cX2_sortWords 42 = .ok (.getfield 70, 3) := by decide +kernel
theorem dX2_sortWords_45 : decode cX2_sortWords 45 = .ok (.iload 10, 2) := by decide +kernel
theorem dX2_sortWords_47 : decode cX2_sortWords 47 = .ok (.laload, 1) := by decide +kernel
theorem dX2_sortWords_48 : decode cX2_sortWords 48 = .ok (.land, 1) := by decide +kernel
theorem dX2_sortWords_49 : decode cX2_sortWords 49 = .ok (.lor, 1) := by decide +kernel
theorem dX2_sortWords_50 : decode cX2_sortWords 50 = .ok (.lstore 6, 2) := by decide +kernel
theorem dX2_sortWords_52 : decode cX2_sortWords 52 = .ok (.lload 8, 2) := by decide +kernel
theorem dX2_sortWords_54 : decode cX2_sortWords 54 = .ok (.lload 4, 2) := by decide +kernel
theorem dX2_sortWords_56 : decode cX2_sortWords 56 = .ok (.aload_n 0, 1) := by decide +kernel
theorem dX2_sortWords_57 : decode cX2_sortWords 57 = .ok (.getfield 12, 3) := by decide +kernel
theorem dX2_sortWords_60 : decode cX2_sortWords 60 = .ok (.getfield 74, 3) := by decide +kernel
theorem dX2_sortWords_63 : decode cX2_sortWords 63 = .ok (.iload 10, 2) := by decide +kernel
theorem dX2_sortWords_65 : decode cX2_sortWords 65 = .ok (.laload, 1) := by decide +kernel
theorem dX2_sortWords_66 : decode cX2_sortWords 66 = .ok (.land, 1) := by decide +kernel
theorem dX2_sortWords_67 : decode cX2_sortWords 67 = .ok (.lor, 1) := by decide +kernel
theorem dX2_sortWords_68 : decode cX2_sortWords 68 = .ok (.lstore 8, 2) := by decide +kernel
theorem dX2_sortWords_70 : decode cX2_sortWords 70 = .ok (.lload_n 2, 1) := by decide +kernel
theorem dX2_sortWords_71 : decode cX2_sortWords 71 = .ok (.aload_n 0, 1) := by decide +kernel
theorem dX2_sortWords_72 : decode cX2_sortWords 72 = .ok (.getfield 12, 3) := by decide +kernel
theorem dX2_sortWords_75 : decode cX2_sortWords 75 = .ok (.getfield 70, 3) := by decide +kernel
theorem dX2_sortWords_78 : decode cX2_sortWords 78 = .ok (.iload 10, 2) := by decide +kernel
theorem dX2_sortWords_80 : decode cX2_sortWords 80 = .ok (.laload, 1) := by decide +kernel
theorem dX2_sortWords_81 : decode cX2_sortWords 81 = .ok (.lor, 1) := by decide +kernel
theorem dX2_sortWords_82 : decode cX2_sortWords 82 = .ok (.lstore_n 2, 1) := by decide +kernel
theorem dX2_sortWords_83 : decode cX2_sortWords 83 = .ok (.lload 4, 2) := by decide +kernel
theorem dX2_sortWords_85 : decode cX2_sortWords 85 = .ok (.aload_n 0, 1) := by decide +kernel
theorem dX2_sortWords_86 : decode cX2_sortWords 86 = .ok (.getfield 12, 3) := by decide +kernel
theorem dX2_sortWords_89 : decode cX2_sortWords 89 = .ok (.getfield 74, 3) := by decide +kernel
theorem dX2_sortWords_92 : decode cX2_sortWords 92 = .ok (.iload 10, 2) := by decide +kernel
theorem dX2_sortWords_94 : decode cX2_sortWords 94 = .ok (.laload, 1) := by decide +kernel
theorem dX2_sortWords_95 : decode cX2_sortWords 95 = .ok (.lor, 1) := by decide +kernel
theorem dX2_sortWords_96 : decode cX2_sortWords 96 = .ok (.lstore 4, 2) := by decide +kernel
theorem dX2_sortWords_98 : decode cX2_sortWords 98 = .ok (.iinc 10 1, 3) := by decide +kernel
theorem dX2_sortWords_101 : decode cX2_sortWords 101 = .ok (.goto (-87), 3) := by decide +kernel
theorem dX2_sortWords_104 : decode cX2_sortWords 104 = .ok (.aload_n 0, 1) := by decide +kernel
theorem dX2_sortWords_105 : decode cX2_sortWords 105 = .ok (.aload_n 0, 1) := by decide +kernel
theorem dX2_sortWords_106 : decode cX2_sortWords 106 = .ok (.getfield 12, 3) := by decide +kernel
theorem dX2_sortWords_109 : decode cX2_sortWords 109 = .ok (.invokevirtual 77, 3) := by decide +kernel
theorem dX2_sortWords_112 : decode cX2_sortWords 112 = .ok (.lload_n 2, 1) := by decide +kernel
theorem dX2_sortWords_113 : decode cX2_sortWords 113 = .ok (.ldc2_w 81, 3) := by decide +kernel
theorem dX2_sortWords_116 : decode cX2_sortWords 116 = .ok (.lxor, 1) := by decide +kernel
theorem dX2_sortWords_117 : decode cX2_sortWords 117 = .ok (.land, 1) := by decide +kernel
theorem dX2_sortWords_118 : decode cX2_sortWords 118 = .ok (.putfield 45, 3) := by decide +kernel
theorem dX2_sortWords_121 : decode cX2_sortWords 121 = .ok (.aload_n 0, 1) := by decide +kernel
theorem dX2_sortWords_122 : decode cX2_sortWords 122 = .ok (.aload_n 0, 1) := by decide +kernel
theorem dX2_sortWords_123 : decode cX2_sortWords 123 = .ok (.getfield 12, 3) := by decide +kernel
theorem dX2_sortWords_126 : decode cX2_sortWords 126 = .ok (.invokevirtual 83, 3) := by decide +kernel
theorem dX2_sortWords_129 : decode cX2_sortWords 129 = .ok (.lload 4, 2) := by decide +kernel
theorem dX2_sortWords_131 : decode cX2_sortWords 131 = .ok (.ldc2_w 81, 3) := by decide +kernel
theorem dX2_sortWords_134 : decode cX2_sortWords 134 = .ok (.lxor, 1) := by decide +kernel
theorem dX2_sortWords_135 : decode cX2_sortWords 135 = .ok (.land, 1) := by decide +kernel
theorem dX2_sortWords_136 : decode cX2_sortWords 136 = .ok (.putfield 49, 3) := by decide +kernel
theorem dX2_sortWords_139 : decode cX2_sortWords 139 = .ok (.aload_n 0, 1) := by decide +kernel
theorem dX2_sortWords_140 : decode cX2_sortWords 140 = .ok (.lload_n 2, 1) := by decide +kernel
theorem dX2_sortWords_141 : decode cX2_sortWords 141 = .ok (.lload 6, 2) := by decide +kernel
theorem dX2_sortWords_143 : decode cX2_sortWords 143 = .ok (.ldc2_w 81, 3) := by decide +kernel
theorem dX2_sortWords_146 : decode cX2_sortWords 146 = .ok (.lxor, 1) := by decide +kernel
theorem dX2_sortWords_147 : decode cX2_sortWords 147 = .ok (.land, 1) := by decide +kernel
theorem dX2_sortWords_148 : decode cX2_sortWords 148 = .ok (.putfield 86, 3) := by decide +kernel
theorem dX2_sortWords_151 : decode cX2_sortWords 151 = .ok (.aload_n 0, 1) := by decide +kernel
theorem dX2_sortWords_152 : decode cX2_sortWords 152 = .ok (.lload 4, 2) := by decide +kernel
theorem dX2_sortWords_154 : decode cX2_sortWords 154 = .ok (.lload 8, 2) := by decide +kernel
theorem dX2_sortWords_156 : decode cX2_sortWords 156 = .ok (.ldc2_w 81, 3) := by decide +kernel
theorem dX2_sortWords_159 : decode cX2_sortWords 159 = .ok (.lxor, 1) := by decide +kernel
theorem dX2_sortWords_160 : decode cX2_sortWords 160 = .ok (.land, 1) := by decide +kernel
theorem dX2_sortWords_161 : decode cX2_sortWords 161 = .ok (.putfield 89, 3) := by decide +kernel
theorem dX2_sortWords_164 : decode cX2_sortWords 164 = .ok (.return_, 1) := by decide +kernel
theorem dX2_tryWithout_0 : decode cX2_tryWithout 0 = .ok (.aload_n 0, 1) := by decide +kernel
theorem dX2_tryWithout_1 : decode cX2_tryWithout 1 = .ok (.getfield 45, 3) := by decide +kernel
theorem dX2_tryWithout_4 : decode cX2_tryWithout 4 = .ok (.aload_n 0, 1) := by decide +kernel
theorem dX2_tryWithout_5 : decode cX2_tryWithout 5 = .ok (.getfield 86, 3) := by decide +kernel
theorem dX2_tryWithout_8 : decode cX2_tryWithout 8 = .ok (.aload_n 0, 1) := by decide +kernel
theorem dX2_tryWithout_9 : decode cX2_tryWithout 9 = .ok (.getfield 12, 3) := by decide +kernel
theorem dX2_tryWithout_12 : decode cX2_tryWithout 12 = .ok (.getfield 70, 3) := by decide +kernel
theorem dX2_tryWithout_15 : decode cX2_tryWithout 15 = .ok (.iload_n 2, 1) := by decide +kernel
theorem dX2_tryWithout_16 : decode cX2_tryWithout 16 = .ok (.laload, 1) := by decide +kernel
theorem dX2_tryWithout_17 : decode cX2_tryWithout 17 = .ok (.land, 1) := by decide +kernel
theorem dX2_tryWithout_18 : decode cX2_tryWithout 18 = .ok (.lor, 1) := by decide +kernel
theorem dX2_tryWithout_19 : decode cX2_tryWithout 19 = .ok (.lstore_n 3, 1) := by decide +kernel
theorem dX2_tryWithout_20 : decode cX2_tryWithout 20 = .ok (.aload_n 0, 1) := by decide +kernel
theorem dX2_tryWithout_21 : decode cX2_tryWithout 21 = .ok (.getfield 49, 3) := by decide +kernel
theorem dX2_tryWithout_24 : decode cX2_tryWithout 24 = .ok (.aload_n 0, 1) := by decide +kernel
theorem dX2_tryWithout_25 : decode cX2_tryWithout 25 = .ok (.getfield 89, 3) := by decide +kernel
theorem dX2_tryWithout_28 : decode cX2_tryWithout 28 = .ok (.aload_n 0, 1) := by decide +kernel
theorem dX2_tryWithout_29 : decode cX2_tryWithout 29 = .ok (.getfield 12, 3) := by decide +kernel
theorem dX2_tryWithout_32 : decode cX2_tryWithout 32 = .ok (.getfield 74, 3) := by decide +kernel
theorem dX2_tryWithout_35 : decode cX2_tryWithout 35 = .ok (.iload_n 2, 1) := by decide +kernel
theorem dX2_tryWithout_36 : decode cX2_tryWithout 36 = .ok (.laload, 1) := by decide +kernel
theorem dX2_tryWithout_37 : decode cX2_tryWithout 37 = .ok (.land, 1) := by decide +kernel
theorem dX2_tryWithout_38 : decode cX2_tryWithout 38 = .ok (.lor, 1) := by decide +kernel
theorem dX2_tryWithout_39 : decode cX2_tryWithout 39 = .ok (.lstore 5, 2) := by decide +kernel
theorem dX2_tryWithout_41 : decode cX2_tryWithout 41 = .ok (.iconst 0, 1) := by decide +kernel
theorem dX2_tryWithout_42 : decode cX2_tryWithout 42 = .ok (.istore 7, 2) := by decide +kernel
theorem dX2_tryWithout_44 : decode cX2_tryWithout 44 = .ok (.iload 7, 2) := by decide +kernel
theorem dX2_tryWithout_46 : decode cX2_tryWithout 46 = .ok (.aload_n 0, 1) := by decide +kernel
theorem dX2_tryWithout_47 : decode cX2_tryWithout 47 = .ok (.getfield 12, 3) := by decide +kernel
theorem dX2_tryWithout_50 : decode cX2_tryWithout 50 = .ok (.getfield 59, 3) := by decide +kernel
theorem dX2_tryWithout_53 : decode cX2_tryWithout 53 = .ok (.if_icmp .ge 82, 3) := by decide +kernel
theorem dX2_tryWithout_56 : decode cX2_tryWithout 56 = .ok (.aload_n 1, 1) := by decide +kernel
theorem dX2_tryWithout_57 : decode cX2_tryWithout 57 = .ok (.iload 7, 2) := by decide +kernel
theorem dX2_tryWithout_59 : decode cX2_tryWithout 59 = .ok (.invokevirtual 62, 3) := by decide +kernel
theorem dX2_tryWithout_62 : decode cX2_tryWithout 62 = .ok (.ifCond .ne 67, 3) := by decide +kernel
theorem dX2_tryWithout_65 : decode cX2_tryWithout 65 = .ok (.lload_n 3, 1) := by decide +kernel
theorem dX2_tryWithout_66 : decode cX2_tryWithout 66 = .ok (.aload_n 0, 1) := by decide +kernel
theorem dX2_tryWithout_67 : decode cX2_tryWithout 67 = .ok (.getfield 12, 3) := by decide +kernel
theorem dX2_tryWithout_70 : decode cX2_tryWithout 70 = .ok (.getfield 70, 3) := by decide +kernel
theorem dX2_tryWithout_73 : decode cX2_tryWithout 73 = .ok (.iload 7, 2) := by decide +kernel
theorem dX2_tryWithout_75 : decode cX2_tryWithout 75 = .ok (.laload, 1) := by decide +kernel
theorem dX2_tryWithout_76 : decode cX2_tryWithout 76 = .ok (.ldc2_w 81, 3) := by decide +kernel
theorem dX2_tryWithout_79 : decode cX2_tryWithout 79 = .ok (.lxor, 1) := by decide +kernel
theorem dX2_tryWithout_80 : decode cX2_tryWithout 80 = .ok (.land, 1) := by decide +kernel
theorem dX2_tryWithout_81 : decode cX2_tryWithout 81 = .ok (.lload 5, 2) := by decide +kernel
theorem dX2_tryWithout_83 : decode cX2_tryWithout 83 = .ok (.aload_n 0, 1) := by decide +kernel
theorem dX2_tryWithout_84 : decode cX2_tryWithout 84 = .ok (.getfield 12, 3) := by decide +kernel
theorem dX2_tryWithout_87 : decode cX2_tryWithout 87 = .ok (.getfield 74, 3) := by decide +kernel
theorem dX2_tryWithout_90 : decode cX2_tryWithout 90 = .ok (.iload 7, 2) := by decide +kernel
theorem dX2_tryWithout_92 : decode cX2_tryWithout 92 = .ok (.laload, 1) := by decide +kernel
theorem dX2_tryWithout_93 : decode cX2_tryWithout 93 = .ok (.ldc2_w 81, 3) := by decide +kernel
theorem dX2_tryWithout_96 : decode cX2_tryWithout 96 = .ok (.lxor, 1) := by decide +kernel
theorem dX2_tryWithout_97 : decode cX2_tryWithout 97 = .ok (.land, 1) := by decide +kernel
theorem dX2_tryWithout_98 : decode cX2_tryWithout 98 = .ok (.invokestatic 52, 3) := by decide +kernel
theorem dX2_tryWithout_101 : decode cX2_tryWithout 101 = .ok (.istore 8, 2) := by decide +kernel
theorem dX2_tryWithout_103 : decode cX2_tryWithout 103 = .ok (.iload 8, 2) := by decide +kernel
theorem dX2_tryWithout_105 : decode cX2_tryWithout 105 = .ok (.aload_n 0, 1) := by decide +kernel
theorem dX2_tryWithout_106 : decode cX2_tryWithout 106 = .ok (.getfield 56, 3) := by decide +kernel
theorem dX2_tryWithout_109 : decode cX2_tryWithout 109 = .ok (.if_icmp .ge 20, 3) := by decide +kernel
theorem dX2_tryWithout_112 : decode cX2_tryWithout 112 = .ok (.aload_n 0, 1) := by decide +kernel
theorem dX2_tryWithout_113 : decode cX2_tryWithout 113 = .ok (.iload 8, 2) := by decide +kernel
theorem dX2_tryWithout_115 : decode cX2_tryWithout 115 = .ok (.putfield 56, 3) := by decide +kernel
theorem dX2_tryWithout_118 : decode cX2_tryWithout 118 = .ok (.aload_n 0, 1) := by decide +kernel
theorem dX2_tryWithout_119 : decode cX2_tryWithout 119 = .ok (.iload_n 2, 1) := by decide +kernel
theorem dX2_tryWithout_120 : decode cX2_tryWithout 120 = .ok (.putfield 26, 3) := by decide +kernel
theorem dX2_tryWithout_123 : decode cX2_tryWithout 123 = .ok (.aload_n 0, 1) := by decide +kernel
theorem dX2_tryWithout_124 : decode cX2_tryWithout 124 = .ok (.iload 7, 2) := by decide +kernel
theorem dX2_tryWithout_126 : decode cX2_tryWithout 126 = .ok (.putfield 36, 3) := by decide +kernel
theorem dX2_tryWithout_129 : decode cX2_tryWithout 129 = .ok (.iinc 7 1, 3) := by decide +kernel
theorem dX2_tryWithout_132 : decode cX2_tryWithout 132 = .ok (.goto (-88), 3) := by decide +kernel
theorem dX2_tryWithout_135 : decode cX2_tryWithout 135 = .ok (.return_, 1) := by decide +kernel
theorem dX3_init_0 : decode cX3_init 0 = .ok (.aload_n 0, 1) := by decide +kernel
theorem dX3_init_1 : decode cX3_init 1 = .ok (.invokespecial 3, 3) := by decide +kernel
theorem dX3_init_4 : decode cX3_init 4 = .ok (.aload_n 0, 1) := by decide +kernel
theorem dX3_init_5 : decode cX3_init 5 = .ok (.sipush 256, 3) := by decide +kernel
theorem dX3_init_8 : decode cX3_init 8 = .ok (.newarray .int, 2) := by decide +kernel
theorem dX3_init_10 : decode cX3_init 10 = .ok (.putfield 9, 3) := by decide +kernel
theorem dX3_init_13 : decode cX3_init 13 = .ok (.aload_n 0, 1) := by decide +kernel
theorem dX3_init_14 : decode cX3_init 14 = .ok (.sipush 256, 3) := by decide +kernel
theorem dX3_init_17 : decode cX3_init 17 = .ok (.newarray .int, 2) := by decide +kernel
theorem dX3_init_19 : decode cX3_init 19 = .ok (.putfield 15, 3) := by decide +kernel
theorem dX3_init_22 : decode cX3_init 22 = .ok (.aload_n 0, 1) := by decide +kernel
theorem dX3_init_23 : decode cX3_init 23 = .ok (.sipush 256, 3) := by decide +kernel
theorem dX3_init_26 : decode cX3_init 26 = .ok (.newarray .int, 2) := by decide +kernel
theorem dX3_init_28 : decode cX3_init 28 = .ok (.putfield 18, 3) := by decide +kernel
theorem dX3_init_31 : decode cX3_init 31 = .ok (.return_, 1) := by decide +kernel
theorem dX3_lay_0 : decode cX3_lay 0 = .ok (.aload_n 0, 1) := by decide +kernel
theorem dX3_lay_1 : decode cX3_lay 1 = .ok (.iconst 1, 1) := by decide +kernel
theorem dX3_lay_2 : decode cX3_lay 2 = .ok (.putfield 21, 3) := by decide +kernel
theorem dX3_lay_5 : decode cX3_lay 5 = .ok (.aload_n 0, 1) := by decide +kernel
theorem dX3_lay_6 : decode cX3_lay 6 = .ok (.iconst 0, 1) := by decide +kernel
theorem dX3_lay_7 : decode cX3_lay 7 = .ok (.putfield 25, 3) := by decide +kernel
theorem dX3_lay_10 : decode cX3_lay 10 = .ok (.aload_n 0, 1) := by decide +kernel
theorem dX3_lay_11 : decode cX3_lay 11 = .ok (.iconst 0, 1) := by decide +kernel
theorem dX3_lay_12 : decode cX3_lay 12 = .ok (.putfield 28, 3) := by decide +kernel
theorem dX3_lay_15 : decode cX3_lay 15 = .ok (.aload_n 0, 1) := by decide +kernel
theorem dX3_lay_16 : decode cX3_lay 16 = .ok (.getfield 9, 3) := by decide +kernel
theorem dX3_lay_19 : decode cX3_lay 19 = .ok (.iconst 0, 1) := by decide +kernel
theorem dX3_lay_20 : decode cX3_lay 20 = .ok (.iconst 0, 1) := by decide +kernel
theorem dX3_lay_21 : decode cX3_lay 21 = .ok (.iastore, 1) := by decide +kernel
theorem dX3_lay_22 : decode cX3_lay 22 = .ok (.iconst 0, 1) := by decide +kernel
theorem dX3_lay_23 : decode cX3_lay 23 = .ok (.istore_n 2, 1) := by decide +kernel
theorem dX3_lay_24 : decode cX3_lay 24 = .ok (.iload_n 2, 1) := by decide +kernel
theorem dX3_lay_25 : decode cX3_lay 25 = .ok (.aload_n 1, 1) := by decide +kernel
theorem dX3_lay_26 : decode cX3_lay 26 = .ok (.getfield 31, 3) := by decide +kernel
theorem dX3_lay_29 : decode cX3_lay 29 = .ok (.if_icmp .ge 26, 3) := by decide +kernel
theorem dX3_lay_32 : decode cX3_lay 32 = .ok (.aload_n 0, 1) := by decide +kernel
theorem dX3_lay_33 : decode cX3_lay 33 = .ok (.iload_n 2, 1) := by decide +kernel
theorem dX3_lay_34 : decode cX3_lay 34 = .ok (.aload_n 1, 1) := by decide +kernel
theorem dX3_lay_35 : decode cX3_lay 35 = .ok (.getfield 36, 3) := by decide +kernel
theorem dX3_lay_38 : decode cX3_lay 38 = .ok (.iload_n 2, 1) := by decide +kernel
theorem dX3_lay_39 : decode cX3_lay 39 = .ok (.iaload, 1) := by decide +kernel
theorem dX3_lay_40 : decode cX3_lay 40 = .ok (.aload_n 1, 1) := by decide +kernel
theorem dX3_lay_41 : decode cX3_lay 41 = .ok (.getfield 39, 3) := by decide +kernel
theorem dX3_lay_44 : decode cX3_lay 44 = .ok (.iload_n 2, 1) := by decide +kernel
theorem dX3_lay_45 : decode cX3_lay 45 = .ok (.iaload, 1) := by decide +kernel
theorem dX3_lay_46 : decode cX3_lay 46 = .ok (.invokevirtual 42, 3) := by decide +kernel
theorem dX3_lay_49 : decode cX3_lay 49 = .ok (.iinc 2 1, 3) := by decide +kernel
theorem dX3_lay_52 : decode cX3_lay 52 = .ok (.goto (-28), 3) := by decide +kernel
theorem dX3_lay_55 : decode cX3_lay 55 = .ok (.return_, 1) := by decide +kernel
theorem dX3_layPlace_0 : decode cX3_layPlace 0 = .ok (.iconst 2, 1) := by decide +kernel
theorem dX3_layPlace_1 : decode cX3_layPlace 1 = .ok (.iload_n 1, 1) := by decide +kernel
theorem dX3_layPlace_2 : decode cX3_layPlace 2 = .ok (.imul, 1) := by decide +kernel
theorem dX3_layPlace_3 : decode cX3_layPlace 3 = .ok (.istore 4, 2) := by decide +kernel
theorem dX3_layPlace_5 : decode cX3_layPlace 5 = .ok (.iload_n 3, 1) := by decide +kernel
theorem dX3_layPlace_6 : decode cX3_layPlace 6 = .ok (.iconst 1, 1) := by decide +kernel
theorem dX3_layPlace_7 : decode cX3_layPlace 7 = .ok (.iand, 1) := by decide +kernel
theorem dX3_layPlace_8 : decode cX3_layPlace 8 = .ok (.ifCond .eq 16, 3) := by decide +kernel
theorem dX3_layPlace_11 : decode cX3_layPlace 11 = .ok (.aload_n 0, 1) := by decide +kernel
theorem dX3_layPlace_12 : decode cX3_layPlace 12 = .ok (.dup, 1) := by decide +kernel
theorem dX3_layPlace_13 : decode cX3_layPlace 13 = .ok (.getfield 25, 3) := by decide +kernel
theorem dX3_layPlace_16 : decode cX3_layPlace 16 = .ok (.iconst 1, 1) := by decide +kernel
theorem dX3_layPlace_17 : decode cX3_layPlace 17 = .ok (.iload 4, 2) := by decide +kernel
theorem dX3_layPlace_19 : decode cX3_layPlace 19 = .ok (.ishl, 1) := by decide +kernel
theorem dX3_layPlace_20 : decode cX3_layPlace 20 = .ok (.ior, 1) := by decide +kernel
theorem dX3_layPlace_21 : decode cX3_layPlace 21 = .ok (.putfield 25, 3) := by decide +kernel
theorem dX3_layPlace_24 : decode cX3_layPlace 24 = .ok (.iload_n 3, 1) := by decide +kernel
theorem dX3_layPlace_25 : decode cX3_layPlace 25 = .ok (.iconst 2, 1) := by decide +kernel
theorem dX3_layPlace_26 : decode cX3_layPlace 26 = .ok (.iand, 1) := by decide +kernel
theorem dX3_layPlace_27 : decode cX3_layPlace 27 = .ok (.ifCond .eq 16, 3) := by decide +kernel
theorem dX3_layPlace_30 : decode cX3_layPlace 30 = .ok (.aload_n 0, 1) := by decide +kernel
theorem dX3_layPlace_31 : decode cX3_layPlace 31 = .ok (.dup, 1) := by decide +kernel
theorem dX3_layPlace_32 : decode cX3_layPlace 32 = .ok (.getfield 28, 3) := by decide +kernel
theorem dX3_layPlace_35 : decode cX3_layPlace 35 = .ok (.iconst 1, 1) := by decide +kernel
theorem dX3_layPlace_36 : decode cX3_layPlace 36 = .ok (.iload 4, 2) := by decide +kernel
theorem dX3_layPlace_38 : decode cX3_layPlace 38 = .ok (.ishl, 1) := by decide +kernel
theorem dX3_layPlace_39 : decode cX3_layPlace 39 = .ok (.ior, 1) := by decide +kernel
theorem dX3_layPlace_40 : decode cX3_layPlace 40 = .ok (.putfield 28, 3) := by decide +kernel
theorem dX3_layPlace_43 : decode cX3_layPlace 43 = .ok (.aload_n 0, 1) := by decide +kernel
theorem dX3_layPlace_44 : decode cX3_layPlace 44 = .ok (.getfield 21, 3) := by decide +kernel
theorem dX3_layPlace_47 : decode cX3_layPlace 47 = .ok (.iconst 1, 1) := by decide +kernel
theorem dX3_layPlace_48 : decode cX3_layPlace 48 = .ok (.isub, 1) := by decide +kernel
theorem dX3_layPlace_49 : decode cX3_layPlace 49 = .ok (.istore 5, 2) := by decide +kernel
theorem dX3_layPlace_51 : decode cX3_layPlace 51 = .ok (.iload 5, 2) := by decide +kernel
theorem dX3_layPlace_53 : decode cX3_layPlace 53 = .ok (.ifCond .lt 53, 3) := by decide +kernel
theorem dX3_layPlace_56 : decode cX3_layPlace 56 = .ok (.aload_n 0, 1) := by decide +kernel
theorem dX3_layPlace_57 : decode cX3_layPlace 57 = .ok (.getfield 9, 3) := by decide +kernel
theorem dX3_layPlace_60 : decode cX3_layPlace 60 = .ok (.iload 5, 2) := by decide +kernel
theorem dX3_layPlace_62 : decode cX3_layPlace 62 = .ok (.iaload, 1) := by decide +kernel
theorem dX3_layPlace_63 : decode cX3_layPlace 63 = .ok (.istore 6, 2) := by decide +kernel
theorem dX3_layPlace_65 : decode cX3_layPlace 65 = .ok (.iconst 0, 1) := by decide +kernel
theorem dX3_layPlace_66 : decode cX3_layPlace 66 = .ok (.istore 7, 2) := by decide +kernel
theorem dX3_layPlace_68 : decode cX3_layPlace 68 = .ok (.iload 7, 2) := by decide +kernel
theorem dX3_layPlace_70 : decode cX3_layPlace 70 = .ok (.iload_n 2, 1) := by decide +kernel
theorem dX3_layPlace_71 : decode cX3_layPlace 71 = .ok (.if_icmp .ge 29, 3) := by decide +kernel
theorem dX3_layPlace_74 : decode cX3_layPlace 74 = .ok (.aload_n 0, 1) := by decide +kernel
theorem dX3_layPlace_75 : decode cX3_layPlace 75 = .ok (.getfield 9, 3) := by decide +kernel
theorem dX3_layPlace_78 : decode cX3_layPlace 78 = .ok (.iload 5, 2) := by decide +kernel
theorem dX3_layPlace_80 : decode cX3_layPlace 80 = .ok (.iload_n 2, 1) := by decide +kernel
theorem dX3_layPlace_81 : decode cX3_layPlace 81 = .ok (.imul, 1) := by decide +kernel
theorem dX3_layPlace_82 : decode cX3_layPlace 82 = .ok (.iload 7, 2) := by decide +kernel
theorem dX3_layPlace_84 : decode cX3_layPlace 84 = .ok (.iadd, 1) := by decide +kernel
theorem dX3_layPlace_85 : decode cX3_layPlace 85 = .ok (.iload 6, 2) := by decide +kernel
theorem dX3_layPlace_87 : decode cX3_layPlace 87 = .ok (.iload 7, 2) := by decide +kernel
theorem dX3_layPlace_89 : decode cX3_layPlace 89 = .ok (.iload 4, 2) := by decide +kernel
theorem dX3_layPlace_91 : decode cX3_layPlace 91 = .ok (.ishl, 1) := by decide +kernel
theorem dX3_layPlace_92 : decode cX3_layPlace 92 = .ok (.ior, 1) := by decide +kernel
theorem dX3_layPlace_93 : decode cX3_layPlace 93 = .ok (.iastore, 1) := by decide +kernel
theorem dX3_layPlace_94 : decode cX3_layPlace 94 = .ok (.iinc 7 1, 3) := by decide +kernel
theorem dX3_layPlace_97 : decode cX3_layPlace 97 = .ok (.goto (-29), 3) := by decide +kernel
theorem dX3_layPlace_100 : decode cX3_layPlace 100 = .ok (.iinc 5 (-1), 3) := by decide +kernel
theorem dX3_layPlace_103 : decode cX3_layPlace 103 = .ok (.goto (-52), 3) := by decide +kernel
theorem dX3_layPlace_106 : decode cX3_layPlace 106 = .ok (.aload_n 0, 1) := by decide +kernel
theorem dX3_layPlace_107 : decode cX3_layPlace 107 = .ok (.dup, 1) := by decide +kernel
theorem dX3_layPlace_108 : decode cX3_layPlace 108 = .ok (.getfield 21, 3) := by decide +kernel
theorem dX3_layPlace_111 : decode cX3_layPlace 111 = .ok (.iload_n 2, 1) := by decide +kernel
theorem dX3_layPlace_112 : decode cX3_layPlace 112 = .ok (.imul, 1) := by decide +kernel
theorem dX3_layPlace_113 : decode cX3_layPlace 113 = .ok (.putfield 21, 3) := by decide +kernel
theorem dX3_layPlace_116 : decode cX3_layPlace 116 = .ok (.return_, 1) := by decide +kernel
theorem dX3_digitAt_0 : decode cX3_digitAt 0 = .ok (.aload_n 0, 1) := by decide +kernel
theorem dX3_digitAt_1 : decode cX3_digitAt 1 = .ok (.getfield 9, 3) := by decide +kernel
theorem dX3_digitAt_4 : decode cX3_digitAt 4 = .ok (.iload_n 1, 1) := by decide +kernel
theorem dX3_digitAt_5 : decode cX3_digitAt 5 = .ok (.iaload, 1) := by decide +kernel
theorem dX3_digitAt_6 : decode cX3_digitAt 6 = .ok (.iconst 2, 1) := by decide +kernel
theorem dX3_digitAt_7 : decode cX3_digitAt 7 = .ok (.iload_n 2, 1) := by decide +kernel
theorem dX3_digitAt_8 : decode cX3_digitAt 8 = .ok (.imul, 1) := by decide +kernel
theorem dX3_digitAt_9 : decode cX3_digitAt 9 = .ok (.ishr, 1) := by decide +kernel
theorem dX3_digitAt_10 : decode cX3_digitAt 10 = .ok (.iconst 3, 1) := by decide +kernel
theorem dX3_digitAt_11 : decode cX3_digitAt 11 = .ok (.iand, 1) := by decide +kernel
theorem dX3_digitAt_12 : decode cX3_digitAt 12 = .ok (.ireturn, 1) := by decide +kernel
theorem dX3_distance_0 : decode cX3_distance 0 = .ok (.aload_n 0, 1) := by decide +kernel
theorem dX3_distance_1 : decode cX3_distance 1 = .ok (.getfield 9, 3) := by decide +kernel
theorem dX3_distance_4 : decode cX3_distance 4 = .ok (.iload_n 1, 1) := by decide +kernel
theorem dX3_distance_5 : decode cX3_distance 5 = .ok (.iaload, 1) := by decide +kernel
theorem dX3_distance_6 : decode cX3_distance 6 = .ok (.aload_n 0, 1) := by decide +kernel
theorem dX3_distance_7 : decode cX3_distance 7 = .ok (.getfield 9, 3) := by decide +kernel
theorem dX3_distance_10 : decode cX3_distance 10 = .ok (.iload_n 2, 1) := by decide +kernel
theorem dX3_distance_11 : decode cX3_distance 11 = .ok (.iaload, 1) := by decide +kernel
theorem dX3_distance_12 : decode cX3_distance 12 = .ok (.ixor, 1) := by decide +kernel
theorem dX3_distance_13 : decode cX3_distance 13 = .ok (.istore_n 3, 1) := by decide +kernel
theorem dX3_distance_14 : decode cX3_distance 14 = .ok (.iload_n 3, 1) := by decide +kernel
theorem dX3_distance_15 : decode cX3_distance 15 = .ok (.iload_n 3, 1) := by decide +kernel
theorem dX3_distance_16 : decode cX3_distance 16 = .ok (.iconst 1, 1) := by decide +kernel
theorem dX3_distance_17 : decode cX3_distance 17 = .ok (.ishr, 1) := by decide +kernel
theorem dX3_distance_18 : decode cX3_distance 18 = .ok (.ior, 1) := by decide +kernel
theorem dX3_distance_19 : decode cX3_distance 19 = .ok (.sipush 21845, 3) := by decide +kernel
theorem dX3_distance_22 : decode cX3_distance 22 = .ok (.iand, 1) := by decide +kernel
theorem dX3_distance_23 : decode cX3_distance 23 = .ok (.istore 4, 2) := by decide +kernel
theorem dX3_distance_25 : decode cX3_distance 25 = .ok (.iload 4, 2) := by decide +kernel
theorem dX3_distance_27 : decode cX3_distance 27 = .ok (.aload_n 0, 1) := by decide +kernel
theorem dX3_distance_28 : decode cX3_distance 28 = .ok (.getfield 25, 3) := by decide +kernel
theorem dX3_distance_31 : decode cX3_distance 31 = .ok (.iand, 1) := by decide +kernel
theorem dX3_distance_32 : decode cX3_distance 32 = .ok (.invokestatic 46, 3) := by decide +kernel
theorem dX3_distance_35 : decode cX3_distance 35 = .ok (.iconst 2, 1) := by decide +kernel
theorem dX3_distance_36 : decode cX3_distance 36 = .ok (.iload 4, 2) := by decide +kernel
theorem dX3_distance_38 : decode cX3_distance 38 = .ok (.aload_n 0, 1) := by decide +kernel
theorem dX3_distance_39 : decode cX3_distance 39 = .ok (.getfield 28, 3) := by decide +kernel
theorem dX3_distance_42 : decode cX3_distance 42 = .ok (.iand, 1) := by decide +kernel
theorem dX3_distance_43 : decode cX3_distance 43 = .ok (.invokestatic 46, 3) := by decide +kernel
theorem dX3_distance_46 : decode cX3_distance 46 = .ok (.imul, 1) := by decide +kernel
theorem dX3_distance_47 : decode cX3_distance 47 = .ok (.iadd, 1) := by decide +kernel
theorem dX3_distance_48 : decode cX3_distance 48 = .ok (.ireturn, 1) := by decide +kernel
theorem dX3_ballSize_0 : decode cX3_ballSize 0 = .ok (.iconst 0, 1) := by decide +kernel
theorem dX3_ballSize_1 : decode cX3_ballSize 1 = .ok (.istore_n 2, 1) := by decide +kernel
theorem dX3_ballSize_2 : decode cX3_ballSize 2 = .ok (.iconst 0, 1) := by decide +kernel
theorem dX3_ballSize_3 : decode cX3_ballSize 3 = .ok (.istore_n 3, 1) := by decide +kernel
theorem dX3_ballSize_4 : decode cX3_ballSize 4 = .ok (.iload_n 3, 1) := by decide +kernel
theorem dX3_ballSize_5 : decode cX3_ballSize 5 = .ok (.aload_n 0, 1) := by decide +kernel
theorem dX3_ballSize_6 : decode cX3_ballSize 6 = .ok (.getfield 21, 3) := by decide +kernel
theorem dX3_ballSize_9 : decode cX3_ballSize 9 = .ok (.if_icmp .ge 22, 3) := by decide +kernel
theorem dX3_ballSize_12 : decode cX3_ballSize 12 = .ok (.aload_n 0, 1) := by decide +kernel
theorem dX3_ballSize_13 : decode cX3_ballSize 13 = .ok (.iconst 0, 1) := by decide +kernel
theorem dX3_ballSize_14 : decode cX3_ballSize 14 = .ok (.iload_n 3, 1) := by decide +kernel
theorem dX3_ballSize_15 : decode cX3_ballSize 15 = .ok (.invokevirtual 52, 3) := by decide +kernel
theorem dX3_ballSize_18 : decode cX3_ballSize 18 = .ok (.iload_n 1, 1) := by decide +kernel
theorem dX3_ballSize_19 : decode cX3_ballSize 19 = .ok (.if_icmp .gt 6, 3) := by decide +kernel
theorem dX3_ballSize_22 : decode cX3_ballSize 22 = .ok (.iinc 2 1, 3) := by decide +kernel
theorem dX3_ballSize_25 : decode cX3_ballSize 25 = .ok (.iinc 3 1, 3) := by decide +kernel
theorem dX3_ballSize_28 : decode cX3_ballSize 28 = .ok (.goto (-24), 3) := by decide +kernel
theorem dX3_ballSize_31 : decode cX3_ballSize 31 = .ok (.iload_n 2, 1) := by decide +kernel
theorem dX3_ballSize_32 : decode cX3_ballSize 32 = .ok (.ireturn, 1) := by decide +kernel
theorem dX3_inBall_0 : decode cX3_inBall 0 = .ok (.iload_n 3, 1) := by decide +kernel
theorem dX3_inBall_1 : decode cX3_inBall 1 = .ok (.istore 4, 2) := by decide +kernel
theorem dX3_inBall_3 : decode cX3_inBall 3 = .ok (.iconst 0, 1) := by decide +kernel
theorem dX3_inBall_4 : decode cX3_inBall 4 = .ok (.istore 5, 2) := by decide +kernel
theorem dX3_inBall_6 : decode cX3_inBall 6 = .ok (.iload 5, 2) := by decide +kernel
theorem dX3_inBall_8 : decode cX3_inBall 8 = .ok (.aload_n 0, 1) := by decide +kernel
theorem dX3_inBall_9 : decode cX3_inBall 9 = .ok (.getfield 21, 3) := by decide +kernel
theorem dX3_inBall_12 : decode cX3_inBall 12 = .ok (.if_icmp .ge 31, 3) := by decide +kernel
theorem dX3_inBall_15 : decode cX3_inBall 15 = .ok (.aload_n 0, 1) := by decide +kernel
theorem dX3_inBall_16 : decode cX3_inBall 16 = .ok (.iload_n 1, 1) := by decide +kernel
theorem dX3_inBall_17 : decode cX3_inBall 17 = .ok (.iload 5, 2) := by decide +kernel
theorem dX3_inBall_19 : decode cX3_inBall 19 = .ok (.invokevirtual 52, 3) := by decide +kernel
theorem dX3_inBall_22 : decode cX3_inBall 22 = .ok (.iload_n 2, 1) := by decide +kernel
theorem dX3_inBall_23 : decode cX3_inBall 23 = .ok (.if_icmp .gt 14, 3) := by decide +kernel
theorem dX3_inBall_26 : decode cX3_inBall 26 = .ok (.iload 4, 2) := by decide +kernel
theorem dX3_inBall_28 : decode cX3_inBall 28 = .ok (.ifCond .ne 6, 3) := by decide +kernel
theorem dX3_inBall_31 : decode cX3_inBall 31 = .ok (.iload 5, 2) := by decide +kernel
theorem dX3_inBall_33 : decode cX3_inBall 33 = .ok (.ireturn, 1) := by decide +kernel
theorem dX3_inBall_34 : decode cX3_inBall 34 = .ok (.iinc 4 (-1), 3) := by decide +kernel
theorem dX3_inBall_37 : decode cX3_inBall 37 = .ok (.iinc 5 1, 3) := by decide +kernel
theorem dX3_inBall_40 : decode cX3_inBall 40 = .ok (.goto (-34), 3) := by decide +kernel
theorem dX3_inBall_43 : decode cX3_inBall 43 = .ok (.bipush (-2), 2) := by decide +kernel
theorem dX3_inBall_45 : decode cX3_inBall 45 = .ok (.ireturn, 1) := by decide +kernel
theorem dX3_fewestByCount_0 : decode cX3_fewestByCount 0 = .ok (.aload_n 0, 1) := by decide +kernel
theorem dX3_fewestByCount_1 : decode cX3_fewestByCount 1 = .ok (.iload_n 1, 1) := by decide +kernel
theorem dX3_fewestByCount_2 : decode cX3_fewestByCount 2 = .ok (.invokevirtual 56, 3) := by decide +kernel
theorem dX3_fewestByCount_5 : decode cX3_fewestByCount 5 = .ok (.istore_n 2, 1) := by decide +kernel
theorem dX3_fewestByCount_6 : decode cX3_fewestByCount 6 = .ok (.iload_n 2, 1) := by decide +kernel
theorem dX3_fewestByCount_7 : decode cX3_fewestByCount 7 = .ok (.iconst 1, 1) := by decide +kernel
theorem dX3_fewestByCount_8 : decode cX3_fewestByCount 8 = .ok (.if_icmp .ge 10, 3) := by decide +kernel
theorem dX3_fewestByCount_11 : decode cX3_fewestByCount 11 = .ok (.aload_n 0, 1) := by decide +kernel
theorem dX3_fewestByCount_12 : decode cX3_fewestByCount 12 = .ok (.getfield 21, 3) := by decide +kernel
theorem dX3_fewestByCount_15 : decode cX3_fewestByCount 15 = .ok (.goto 13, 3) := by decide +kernel
theorem dX3_fewestByCount_18 : decode cX3_fewestByCount 18 = .ok (.aload_n 0, 1) := by decide +kernel
theorem dX3_fewestByCount_19 : decode cX3_fewestByCount 19 = .ok (.getfield 21, 3) := by decide +kernel
theorem dX3_fewestByCount_22 : decode cX3_fewestByCount 22 = .ok (.iload_n 2, 1) := by decide +kernel
theorem dX3_fewestByCount_23 : decode cX3_fewestByCount 23 = .ok (.iadd, 1) := by decide +kernel
theorem dX3_fewestByCount_24 : decode cX3_fewestByCount 24 = .ok (.iconst 1, 1) := by decide +kernel
theorem dX3_fewestByCount_25 : decode cX3_fewestByCount 25 = .ok (.isub, 1) := by decide +kernel
theorem dX3_fewestByCount_26 : decode cX3_fewestByCount 26 = .ok (.iload_n 2, 1) := by decide +kernel
theorem dX3_fewestByCount_27 : decode cX3_fewestByCount 27 = .ok (.idiv, 1) := by decide +kernel
theorem dX3_fewestByCount_28 : decode cX3_fewestByCount 28 = .ok (.ireturn, 1) := by decide +kernel
theorem dX3_countTimes_0 : decode cX3_countTimes 0 = .ok (.aload_n 0, 1) := by decide +kernel
theorem dX3_countTimes_1 : decode cX3_countTimes 1 = .ok (.getfield 15, 3) := by decide +kernel
theorem dX3_countTimes_4 : decode cX3_countTimes 4 = .ok (.iconst 0, 1) := by decide +kernel
theorem dX3_countTimes_5 : decode cX3_countTimes 5 = .ok (.invokestatic 59, 3) := by decide +kernel
theorem dX3_countTimes_8 : decode cX3_countTimes 8 = .ok (.iconst 0, 1) := by decide +kernel
theorem dX3_countTimes_9 : decode cX3_countTimes 9 = .ok (.istore_n 3, 1) := by decide +kernel
theorem dX3_countTimes_10 : decode cX3_countTimes 10 = .ok (.iload_n 3, 1) := by decide +kernel
theorem dX3_countTimes_11 : decode cX3_countTimes 11 = .ok (.aload_n 0, 1) := by decide +kernel
theorem dX3_countTimes_12 : decode cX3_countTimes 12 = .ok (.getfield 21, 3) := by decide +kernel
theorem dX3_countTimes_15 : decode cX3_countTimes 15 = .ok (.if_icmp .ge 24, 3) := by decide +kernel
theorem dX3_countTimes_18 : decode cX3_countTimes 18 = .ok (.aload_n 1, 1) := by decide +kernel
theorem dX3_countTimes_19 : decode cX3_countTimes 19 = .ok (.iload_n 3, 1) := by decide +kernel
theorem dX3_countTimes_20 : decode cX3_countTimes 20 = .ok (.invokevirtual 65, 3) := by decide +kernel
theorem dX3_countTimes_23 : decode cX3_countTimes 23 = .ok (.ifCond .eq 10, 3) := by decide +kernel
theorem dX3_countTimes_26 : decode cX3_countTimes 26 = .ok (.aload_n 0, 1) := by decide +kernel
theorem dX3_countTimes_27 : decode cX3_countTimes 27 = .ok (.iload_n 3, 1) := by decide +kernel
theorem dX3_countTimes_28 : decode cX3_countTimes 28 = .ok (.iload_n 2, 1) := by decide +kernel
theorem dX3_countTimes_29 : decode cX3_countTimes 29 = .ok (.iconst 1, 1) := by decide +kernel
theorem dX3_countTimes_30 : decode cX3_countTimes 30 = .ok (.invokevirtual 69, 3) := by decide +kernel
theorem dX3_countTimes_33 : decode cX3_countTimes 33 = .ok (.iinc 3 1, 3) := by decide +kernel
theorem dX3_countTimes_36 : decode cX3_countTimes 36 = .ok (.goto (-26), 3) := by decide +kernel
theorem dX3_countTimes_39 : decode cX3_countTimes 39 = .ok (.return_, 1) := by decide +kernel
theorem dX3_addTimes_0 : decode cX3_addTimes 0 = .ok (.iconst 0, 1) := by decide +kernel
theorem dX3_addTimes_1 : decode cX3_addTimes 1 = .ok (.istore 4, 2) := by decide +kernel
theorem dX3_addTimes_3 : decode cX3_addTimes 3 = .ok (.iload 4, 2) := by decide +kernel
theorem dX3_addTimes_5 : decode cX3_addTimes 5 = .ok (.aload_n 0, 1) := by decide +kernel
theorem dX3_addTimes_6 : decode cX3_addTimes 6 = .ok (.getfield 21, 3) := by decide +kernel
theorem dX3_addTimes_9 : decode cX3_addTimes 9 = .ok (.if_icmp .ge 31, 3) := by decide +kernel
theorem dX3_addTimes_12 : decode cX3_addTimes 12 = .ok (.aload_n 0, 1) := by decide +kernel
theorem dX3_addTimes_13 : decode cX3_addTimes 13 = .ok (.iload_n 1, 1) := by decide +kernel
theorem dX3_addTimes_14 : decode cX3_addTimes 14 = .ok (.iload 4, 2) := by decide +kernel
theorem dX3_addTimes_16 : decode cX3_addTimes 16 = .ok (.invokevirtual 52, 3) := by decide +kernel
theorem dX3_addTimes_19 : decode cX3_addTimes 19 = .ok (.iload_n 2, 1) := by decide +kernel
theorem dX3_addTimes_20 : decode cX3_addTimes 20 = .ok (.if_icmp .gt 14, 3) := by decide +kernel
theorem dX3_addTimes_23 : decode cX3_addTimes 23 = .ok (.aload_n 0, 1) := by decide +kernel
theorem dX3_addTimes_24 : decode cX3_addTimes 24 = .ok (.getfield 15, 3) := by decide +kernel
theorem dX3_addTimes_27 : decode cX3_addTimes 27 = .ok (.iload 4, 2) := by decide +kernel
theorem dX3_addTimes_29 : decode cX3_addTimes 29 = .ok (.dup2, 1) := by decide +kernel
theorem dX3_addTimes_30 : decode cX3_addTimes 30 = .ok (.iaload, 1) := by decide +kernel
theorem dX3_addTimes_31 : decode cX3_addTimes 31 = .ok (.iload_n 3, 1) := by decide +kernel
theorem dX3_addTimes_32 : decode cX3_addTimes 32 = .ok (.iadd, 1) := by decide +kernel
theorem dX3_addTimes_33 : decode cX3_addTimes 33 = .ok (.iastore, 1) := by decide +kernel
theorem dX3_addTimes_34 : decode cX3_addTimes 34 = .ok (.iinc 4 1, 3) := by decide +kernel
theorem dX3_addTimes_37 : decode cX3_addTimes 37 = .ok (.goto (-34), 3) := by decide +kernel
theorem dX3_addTimes_40 : decode cX3_addTimes 40 = .ok (.return_, 1) := by decide +kernel
theorem dX3_withTimes_0 : decode cX3_withTimes 0 = .ok (.iconst 0, 1) := by decide +kernel
theorem dX3_withTimes_1 : decode cX3_withTimes 1 = .ok (.istore_n 2, 1) := by decide +kernel
theorem dX3_withTimes_2 : decode cX3_withTimes 2 = .ok (.iconst 0, 1) := by decide +kernel
theorem dX3_withTimes_3 : decode cX3_withTimes 3 = .ok (.istore_n 3, 1) := by decide +kernel
theorem dX3_withTimes_4 : decode cX3_withTimes 4 = .ok (.iload_n 3, 1) := by decide +kernel
theorem dX3_withTimes_5 : decode cX3_withTimes 5 = .ok (.aload_n 0, 1) := by decide +kernel
theorem dX3_withTimes_6 : decode cX3_withTimes 6 = .ok (.getfield 21, 3) := by decide +kernel
theorem dX3_withTimes_9 : decode cX3_withTimes 9 = .ok (.if_icmp .ge 22, 3) := by decide +kernel
theorem dX3_withTimes_12 : decode cX3_withTimes 12 = .ok (.aload_n 0, 1) := by decide +kernel
theorem dX3_withTimes_13 : decode cX3_withTimes 13 = .ok (.getfield 15, 3) := by decide +kernel
theorem dX3_withTimes_16 : decode cX3_withTimes 16 = .ok (.iload_n 3, 1) := by decide +kernel
theorem dX3_withTimes_17 : decode cX3_withTimes 17 = .ok (.iaload, 1) := by decide +kernel
theorem dX3_withTimes_18 : decode cX3_withTimes 18 = .ok (.iload_n 1, 1) := by decide +kernel
theorem dX3_withTimes_19 : decode cX3_withTimes 19 = .ok (.if_icmp .ne 6, 3) := by decide +kernel
theorem dX3_withTimes_22 : decode cX3_withTimes 22 = .ok (.iinc 2 1, 3) := by decide +kernel
theorem dX3_withTimes_25 : decode cX3_withTimes 25 = .ok (.iinc 3 1, 3) := by decide +kernel
theorem dX3_withTimes_28 : decode cX3_withTimes 28 = .ok (.goto (-24), 3) := by decide +kernel
theorem dX3_withTimes_31 : decode cX3_withTimes 31 = .ok (.iload_n 2, 1) := by decide +kernel
theorem dX3_withTimes_32 : decode cX3_withTimes 32 = .ok (.ireturn, 1) := by decide +kernel
theorem dX3_timesTooMany_0 : decode cX3_timesTooMany 0 = .ok (.iconst 0, 1) := by decide +kernel
theorem dX3_timesTooMany_1 : decode cX3_timesTooMany 1 = .ok (.istore_n 1, 1) := by decide +kernel
theorem dX3_timesTooMany_2 : decode cX3_timesTooMany 2 = .ok (.iconst 0, 1) := by decide +kernel
theorem dX3_timesTooMany_3 : decode cX3_timesTooMany 3 = .ok (.istore_n 2, 1) := by decide +kernel
theorem dX3_timesTooMany_4 : decode cX3_timesTooMany 4 = .ok (.iload_n 2, 1) := by decide +kernel
theorem dX3_timesTooMany_5 : decode cX3_timesTooMany 5 = .ok (.aload_n 0, 1) := by decide +kernel
theorem dX3_timesTooMany_6 : decode cX3_timesTooMany 6 = .ok (.getfield 21, 3) := by decide +kernel
theorem dX3_timesTooMany_9 : decode cX3_timesTooMany 9 = .ok (.if_icmp .ge 29, 3) := by decide +kernel
theorem dX3_timesTooMany_12 : decode cX3_timesTooMany 12 = .ok (.aload_n 0, 1) := by decide +kernel
theorem dX3_timesTooMany_13 : decode cX3_timesTooMany 13 = .ok (.getfield 15, 3) := by decide +kernel
theorem dX3_timesTooMany_16 : decode cX3_timesTooMany 16 = .ok (.iload_n 2, 1) := by decide +kernel
theorem dX3_timesTooMany_17 : decode cX3_timesTooMany 17 = .ok (.iaload, 1) := by decide +kernel
theorem dX3_timesTooMany_18 : decode cX3_timesTooMany 18 = .ok (.ifCond .le 14, 3) := by decide +kernel
theorem dX3_timesTooMany_21 : decode cX3_timesTooMany 21 = .ok (.iload_n 1, 1) := by decide +kernel
theorem dX3_timesTooMany_22 : decode cX3_timesTooMany 22 = .ok (.aload_n 0, 1) := by decide +kernel
theorem dX3_timesTooMany_23 : decode cX3_timesTooMany 23 = .ok (.getfield 15, 3) := by decide +kernel
theorem dX3_timesTooMany_26 : decode cX3_timesTooMany 26 = .ok (.iload_n 2, 1) := by decide +kernel
theorem dX3_timesTooMany_27 : decode cX3_timesTooMany 27 = .ok (.iaload, 1) := by decide +kernel
theorem dX3_timesTooMany_28 : decode cX3_timesTooMany 28 = .ok (.iconst 1, 1) := by decide +kernel
theorem dX3_timesTooMany_29 : decode cX3_timesTooMany 29 = .ok (.isub, 1) := by decide +kernel
theorem dX3_timesTooMany_30 : decode cX3_timesTooMany 30 = .ok (.iadd, 1) := by decide +kernel
theorem dX3_timesTooMany_31 : decode cX3_timesTooMany 31 = .ok (.istore_n 1, 1) := by decide +kernel
theorem dX3_timesTooMany_32 : decode cX3_timesTooMany 32 = .ok (.iinc 2 1, 3) := by decide +kernel
theorem dX3_timesTooMany_35 : decode cX3_timesTooMany 35 = .ok (.goto (-31), 3) := by decide +kernel
theorem dX3_timesTooMany_38 : decode cX3_timesTooMany 38 = .ok (.iload_n 1, 1) := by decide +kernel
theorem dX3_timesTooMany_39 : decode cX3_timesTooMany 39 = .ok (.ireturn, 1) := by decide +kernel
theorem dX3_holeAt_0 : decode cX3_holeAt 0 = .ok (.iload_n 1, 1) := by decide +kernel
theorem dX3_holeAt_1 : decode cX3_holeAt 1 = .ok (.istore_n 2, 1) := by decide +kernel
theorem dX3_holeAt_2 : decode cX3_holeAt 2 = .ok (.iconst 0, 1) := by decide +kernel
theorem dX3_holeAt_3 : decode cX3_holeAt 3 = .ok (.istore_n 3, 1) := by decide +kernel
theorem dX3_holeAt_4 : decode cX3_holeAt 4 = .ok (.iload_n 3, 1) := by decide +kernel
theorem dX3_holeAt_5 : decode cX3_holeAt 5 = .ok (.aload_n 0, 1) := by decide +kernel
theorem dX3_holeAt_6 : decode cX3_holeAt 6 = .ok (.getfield 21, 3) := by decide +kernel
theorem dX3_holeAt_9 : decode cX3_holeAt 9 = .ok (.if_icmp .ge 27, 3) := by decide +kernel
theorem dX3_holeAt_12 : decode cX3_holeAt 12 = .ok (.aload_n 0, 1) := by decide +kernel
theorem dX3_holeAt_13 : decode cX3_holeAt 13 = .ok (.getfield 15, 3) := by decide +kernel
theorem dX3_holeAt_16 : decode cX3_holeAt 16 = .ok (.iload_n 3, 1) := by decide +kernel
theorem dX3_holeAt_17 : decode cX3_holeAt 17 = .ok (.iaload, 1) := by decide +kernel
theorem dX3_holeAt_18 : decode cX3_holeAt 18 = .ok (.ifCond .ne 12, 3) := by decide +kernel
theorem dX3_holeAt_21 : decode cX3_holeAt 21 = .ok (.iload_n 2, 1) := by decide +kernel
theorem dX3_holeAt_22 : decode cX3_holeAt 22 = .ok (.ifCond .ne 5, 3) := by decide +kernel
theorem dX3_holeAt_25 : decode cX3_holeAt 25 = .ok (.iload_n 3, 1) := by decide +kernel
theorem dX3_holeAt_26 : decode cX3_holeAt 26 = .ok (.ireturn, 1) := by decide +kernel
theorem dX3_holeAt_27 : decode cX3_holeAt 27 = .ok (.iinc 2 (-1), 3) := by decide +kernel
theorem dX3_holeAt_30 : decode cX3_holeAt 30 = .ok (.iinc 3 1, 3) := by decide +kernel
theorem dX3_holeAt_33 : decode cX3_holeAt 33 = .ok (.goto (-29), 3) := by decide +kernel
theorem dX3_holeAt_36 : decode cX3_holeAt 36 = .ok (.bipush (-2), 2) := by decide +kernel
theorem dX3_holeAt_38 : decode cX3_holeAt 38 = .ok (.ireturn, 1) := by decide +kernel
theorem dX3_idleAt_0 : decode cX3_idleAt 0 = .ok (.iload_n 3, 1) := by decide +kernel
theorem dX3_idleAt_1 : decode cX3_idleAt 1 = .ok (.istore 4, 2) := by decide +kernel
theorem dX3_idleAt_3 : decode cX3_idleAt 3 = .ok (.iconst 0, 1) := by decide +kernel
theorem dX3_idleAt_4 : decode cX3_idleAt 4 = .ok (.istore 5, 2) := by decide +kernel
theorem dX3_idleAt_6 : decode cX3_idleAt 6 = .ok (.iload 5, 2) := by decide +kernel
theorem dX3_idleAt_8 : decode cX3_idleAt 8 = .ok (.aload_n 0, 1) := by decide +kernel
theorem dX3_idleAt_9 : decode cX3_idleAt 9 = .ok (.getfield 21, 3) := by decide +kernel
theorem dX3_idleAt_12 : decode cX3_idleAt 12 = .ok (.if_icmp .ge 39, 3) := by decide +kernel
theorem dX3_idleAt_15 : decode cX3_idleAt 15 = .ok (.aload_n 1, 1) := by decide +kernel
theorem dX3_idleAt_16 : decode cX3_idleAt 16 = .ok (.iload 5, 2) := by decide +kernel
theorem dX3_idleAt_18 : decode cX3_idleAt 18 = .ok (.invokevirtual 65, 3) := by decide +kernel
theorem dX3_idleAt_21 : decode cX3_idleAt 21 = .ok (.ifCond .eq 24, 3) := by decide +kernel
theorem dX3_idleAt_24 : decode cX3_idleAt 24 = .ok (.aload_n 0, 1) := by decide +kernel
theorem dX3_idleAt_25 : decode cX3_idleAt 25 = .ok (.iload 5, 2) := by decide +kernel
theorem dX3_idleAt_27 : decode cX3_idleAt 27 = .ok (.iload_n 2, 1) := by decide +kernel
theorem dX3_idleAt_28 : decode cX3_idleAt 28 = .ok (.invokevirtual 72, 3) := by decide +kernel
theorem dX3_idleAt_31 : decode cX3_idleAt 31 = .ok (.ifCond .ne 14, 3) := by decide +kernel
theorem dX3_idleAt_34 : decode cX3_idleAt 34 = .ok (.iload 4, 2) := by decide +kernel
theorem dX3_idleAt_36 : decode cX3_idleAt 36 = .ok (.ifCond .ne 6, 3) := by decide +kernel
theorem dX3_idleAt_39 : decode cX3_idleAt 39 = .ok (.iload 5, 2) := by decide +kernel
theorem dX3_idleAt_41 : decode cX3_idleAt 41 = .ok (.ireturn, 1) := by decide +kernel
theorem dX3_idleAt_42 : decode cX3_idleAt 42 = .ok (.iinc 4 (-1), 3) := by decide +kernel
theorem dX3_idleAt_45 : decode cX3_idleAt 45 = .ok (.iinc 5 1, 3) := by decide +kernel
theorem dX3_idleAt_48 : decode cX3_idleAt 48 = .ok (.goto (-42), 3) := by decide +kernel
theorem dX3_idleAt_51 : decode cX3_idleAt 51 = .ok (.bipush (-2), 2) := by decide +kernel
theorem dX3_idleAt_53 : decode cX3_idleAt 53 = .ok (.ireturn, 1) := by decide +kernel
theorem dX3_onlyBy_0 : decode cX3_onlyBy 0 = .ok (.iconst 0, 1) := by decide +kernel
theorem dX3_onlyBy_1 : decode cX3_onlyBy 1 = .ok (.istore_n 3, 1) := by decide +kernel
theorem dX3_onlyBy_2 : decode cX3_onlyBy 2 = .ok (.iconst 0, 1) := by decide +kernel
theorem dX3_onlyBy_3 : decode cX3_onlyBy 3 = .ok (.istore 4, 2) := by decide +kernel
theorem dX3_onlyBy_5 : decode cX3_onlyBy 5 = .ok (.iload 4, 2) := by decide +kernel
theorem dX3_onlyBy_7 : decode cX3_onlyBy 7 = .ok (.aload_n 0, 1) := by decide +kernel
theorem dX3_onlyBy_8 : decode cX3_onlyBy 8 = .ok (.getfield 21, 3) := by decide +kernel
theorem dX3_onlyBy_11 : decode cX3_onlyBy 11 = .ok (.if_icmp .ge 34, 3) := by decide +kernel
theorem dX3_onlyBy_14 : decode cX3_onlyBy 14 = .ok (.aload_n 0, 1) := by decide +kernel
theorem dX3_onlyBy_15 : decode cX3_onlyBy 15 = .ok (.getfield 15, 3) := by decide +kernel
theorem dX3_onlyBy_18 : decode cX3_onlyBy 18 = .ok (.iload 4, 2) := by decide +kernel
theorem dX3_onlyBy_20 : decode cX3_onlyBy 20 = .ok (.iaload, 1) := by decide +kernel
theorem dX3_onlyBy_21 : decode cX3_onlyBy 21 = .ok (.iconst 1, 1) := by decide +kernel
theorem dX3_onlyBy_22 : decode cX3_onlyBy 22 = .ok (.if_icmp .ne 17, 3) := by decide +kernel
theorem dX3_onlyBy_25 : decode cX3_onlyBy 25 = .ok (.aload_n 0, 1) := by decide +kernel
theorem dX3_onlyBy_26 : decode cX3_onlyBy 26 = .ok (.iload_n 1, 1) := by decide +kernel
theorem dX3_onlyBy_27 : decode cX3_onlyBy 27 = .ok (.iload 4, 2) := by decide +kernel
theorem dX3_onlyBy_29 : decode cX3_onlyBy 29 = .ok (.invokevirtual 52, 3) := by decide +kernel
theorem dX3_onlyBy_32 : decode cX3_onlyBy 32 = .ok (.iload_n 2, 1) := by decide +kernel
theorem dX3_onlyBy_33 : decode cX3_onlyBy 33 = .ok (.if_icmp .gt 6, 3) := by decide +kernel
theorem dX3_onlyBy_36 : decode cX3_onlyBy 36 = .ok (.iinc 3 1, 3) := by decide +kernel
theorem dX3_onlyBy_39 : decode cX3_onlyBy 39 = .ok (.iinc 4 1, 3) := by decide +kernel
theorem dX3_onlyBy_42 : decode cX3_onlyBy 42 = .ok (.goto (-37), 3) := by decide +kernel
theorem dX3_onlyBy_45 : decode cX3_onlyBy 45 = .ok (.iload_n 3, 1) := by decide +kernel
theorem dX3_onlyBy_46 : decode cX3_onlyBy 46 = .ok (.ireturn, 1) := by decide +kernel
theorem dX3_pairsApart_0 : decode cX3_pairsApart 0 = .ok (.iconst 0, 1) := by decide +kernel
theorem dX3_pairsApart_1 : decode cX3_pairsApart 1 = .ok (.istore_n 3, 1) := by decide +kernel
theorem dX3_pairsApart_2 : decode cX3_pairsApart 2 = .ok (.iconst 0, 1) := by decide +kernel
theorem dX3_pairsApart_3 : decode cX3_pairsApart 3 = .ok (.istore 4, 2) := by decide +kernel
theorem dX3_pairsApart_5 : decode cX3_pairsApart 5 = .ok (.iload 4, 2) := by decide +kernel
theorem dX3_pairsApart_7 : decode cX3_pairsApart 7 = .ok (.aload_n 0, 1) := by decide +kernel
theorem dX3_pairsApart_8 : decode cX3_pairsApart 8 = .ok (.getfield 21, 3) := by decide +kernel
theorem dX3_pairsApart_11 : decode cX3_pairsApart 11 = .ok (.if_icmp .ge 63, 3) := by decide +kernel
theorem dX3_pairsApart_14 : decode cX3_pairsApart 14 = .ok (.aload_n 1, 1) := by decide +kernel
theorem dX3_pairsApart_15 : decode cX3_pairsApart 15 = .ok (.iload 4, 2) := by decide +kernel
theorem dX3_pairsApart_17 : decode cX3_pairsApart 17 = .ok (.invokevirtual 65, 3) := by decide +kernel
theorem dX3_pairsApart_20 : decode cX3_pairsApart 20 = .ok (.ifCond .eq 48, 3) := by decide +kernel
theorem dX3_pairsApart_23 : decode cX3_pairsApart 23 = .ok (.iload 4, 2) := by decide +kernel
theorem dX3_pairsApart_25 : decode cX3_pairsApart 25 = .ok (.iconst 1, 1) := by decide +kernel
theorem dX3_pairsApart_26 : decode cX3_pairsApart 26 = .ok (.iadd, 1) := by decide +kernel
theorem dX3_pairsApart_27 : decode cX3_pairsApart 27 = .ok (.istore 5, 2) := by decide +kernel
theorem dX3_pairsApart_29 : decode cX3_pairsApart 29 = .ok (.iload 5, 2) := by decide +kernel
theorem dX3_pairsApart_31 : decode cX3_pairsApart 31 = .ok (.aload_n 0, 1) := by decide +kernel
theorem dX3_pairsApart_32 : decode cX3_pairsApart 32 = .ok (.getfield 21, 3) := by decide +kernel
theorem dX3_pairsApart_35 : decode cX3_pairsApart 35 = .ok (.if_icmp .ge 33, 3) := by decide +kernel
theorem dX3_pairsApart_38 : decode cX3_pairsApart 38 = .ok (.aload_n 1, 1) := by decide +kernel
theorem dX3_pairsApart_39 : decode cX3_pairsApart 39 = .ok (.iload 5, 2) := by decide +kernel
theorem dX3_pairsApart_41 : decode cX3_pairsApart 41 = .ok (.invokevirtual 65, 3) := by decide +kernel
theorem dX3_pairsApart_44 : decode cX3_pairsApart 44 = .ok (.ifCond .eq 18, 3) := by decide +kernel
theorem dX3_pairsApart_47 : decode cX3_pairsApart 47 = .ok (.aload_n 0, 1) := by decide +kernel
theorem dX3_pairsApart_48 : decode cX3_pairsApart 48 = .ok (.iload 4, 2) := by decide +kernel
theorem dX3_pairsApart_50 : decode cX3_pairsApart 50 = .ok (.iload 5, 2) := by decide +kernel
theorem dX3_pairsApart_52 : decode cX3_pairsApart 52 = .ok (.invokevirtual 52, 3) := by decide +kernel
theorem dX3_pairsApart_55 : decode cX3_pairsApart 55 = .ok (.iload_n 2, 1) := by decide +kernel
theorem dX3_pairsApart_56 : decode cX3_pairsApart 56 = .ok (.if_icmp .ne 6, 3) := by decide +kernel
theorem dX3_pairsApart_59 : decode cX3_pairsApart 59 = .ok (.iinc 3 1, 3) := by decide +kernel
theorem dX3_pairsApart_62 : decode cX3_pairsApart 62 = .ok (.iinc 5 1, 3) := by decide +kernel
theorem dX3_pairsApart_65 : decode cX3_pairsApart 65 = .ok (.goto (-36), 3) := by decide +kernel
theorem dX3_pairsApart_68 : decode cX3_pairsApart 68 = .ok (.iinc 4 1, 3) := by decide +kernel
theorem dX3_pairsApart_71 : decode cX3_pairsApart 71 = .ok (.goto (-66), 3) := by decide +kernel
theorem dX3_pairsApart_74 : decode cX3_pairsApart 74 = .ok (.iload_n 3, 1) := by decide +kernel
theorem dX3_pairsApart_75 : decode cX3_pairsApart 75 = .ok (.ireturn, 1) := by decide +kernel
theorem dX3_leastApart_0 : decode cX3_leastApart 0 = .ok (.ldc 75, 2) := by decide +kernel
theorem dX3_leastApart_2 : decode cX3_leastApart 2 = .ok (.istore_n 2, 1) := by decide +kernel
theorem dX3_leastApart_3 : decode cX3_leastApart 3 = .ok (.iconst 0, 1) := by decide +kernel
theorem dX3_leastApart_4 : decode cX3_leastApart 4 = .ok (.istore_n 3, 1) := by decide +kernel
theorem dX3_leastApart_5 : decode cX3_leastApart 5 = .ok (.iload_n 3, 1) := by decide +kernel
theorem dX3_leastApart_6 : decode cX3_leastApart 6 = .ok (.aload_n 0, 1) := by decide +kernel
theorem dX3_leastApart_7 : decode cX3_leastApart 7 = .ok (.getfield 21, 3) := by decide +kernel
theorem dX3_leastApart_10 : decode cX3_leastApart 10 = .ok (.if_icmp .ge 58, 3) := by decide +kernel
theorem dX3_leastApart_13 : decode cX3_leastApart 13 = .ok (.aload_n 1, 1) := by decide +kernel
theorem dX3_leastApart_14 : decode cX3_leastApart 14 = .ok (.iload_n 3, 1) := by decide +kernel
theorem dX3_leastApart_15 : decode cX3_leastApart 15 = .ok (.invokevirtual 65, 3) := by decide +kernel
theorem dX3_leastApart_18 : decode cX3_leastApart 18 = .ok (.ifCond .eq 44, 3) := by decide +kernel
theorem dX3_leastApart_21 : decode cX3_leastApart 21 = .ok (.iload_n 3, 1) := by decide +kernel
theorem dX3_leastApart_22 : decode cX3_leastApart 22 = .ok (.iconst 1, 1) := by decide +kernel
theorem dX3_leastApart_23 : decode cX3_leastApart 23 = .ok (.iadd, 1) := by decide +kernel
theorem dX3_leastApart_24 : decode cX3_leastApart 24 = .ok (.istore 4, 2) := by decide +kernel
theorem dX3_leastApart_26 : decode cX3_leastApart 26 = .ok (.iload 4, 2) := by decide +kernel
theorem dX3_leastApart_28 : decode cX3_leastApart 28 = .ok (.aload_n 0, 1) := by decide +kernel
theorem dX3_leastApart_29 : decode cX3_leastApart 29 = .ok (.getfield 21, 3) := by decide +kernel
theorem dX3_leastApart_32 : decode cX3_leastApart 32 = .ok (.if_icmp .ge 30, 3) := by decide +kernel
theorem dX3_leastApart_35 : decode cX3_leastApart 35 = .ok (.aload_n 1, 1) := by decide +kernel
theorem dX3_leastApart_36 : decode cX3_leastApart 36 = .ok (.iload 4, 2) := by decide +kernel
theorem dX3_leastApart_38 : decode cX3_leastApart 38 = .ok (.invokevirtual 65, 3) := by decide +kernel
theorem dX3_leastApart_41 : decode cX3_leastApart 41 = .ok (.ifCond .eq 15, 3) := by decide +kernel
theorem dX3_leastApart_44 : decode cX3_leastApart 44 = .ok (.iload_n 2, 1) := by decide +kernel
theorem dX3_leastApart_45 : decode cX3_leastApart 45 = .ok (.aload_n 0, 1) := by decide +kernel
theorem dX3_leastApart_46 : decode cX3_leastApart 46 = .ok (.iload_n 3, 1) := by decide +kernel
theorem dX3_leastApart_47 : decode cX3_leastApart 47 = .ok (.iload 4, 2) := by decide +kernel
theorem dX3_leastApart_49 : decode cX3_leastApart 49 = .ok (.invokevirtual 52, 3) := by decide +kernel
theorem dX3_leastApart_52 : decode cX3_leastApart 52 = .ok (.invokestatic 76, 3) := by decide +kernel
theorem dX3_leastApart_55 : decode cX3_leastApart 55 = .ok (.istore_n 2, 1) := by decide +kernel
theorem dX3_leastApart_56 : decode cX3_leastApart 56 = .ok (.iinc 4 1, 3) := by decide +kernel
theorem dX3_leastApart_59 : decode cX3_leastApart 59 = .ok (.goto (-33), 3) := by decide +kernel
theorem dX3_leastApart_62 : decode cX3_leastApart 62 = .ok (.iinc 3 1, 3) := by decide +kernel
theorem dX3_leastApart_65 : decode cX3_leastApart 65 = .ok (.goto (-60), 3) := by decide +kernel
theorem dX3_leastApart_68 : decode cX3_leastApart 68 = .ok (.iload_n 2, 1) := by decide +kernel
theorem dX3_leastApart_69 : decode cX3_leastApart 69 = .ok (.ireturn, 1) := by decide +kernel
theorem dX3_radius_0 : decode cX3_radius 0 = .ok (.iconst 0, 1) := by decide +kernel
theorem dX3_radius_1 : decode cX3_radius 1 = .ok (.istore_n 2, 1) := by decide +kernel
theorem dX3_radius_2 : decode cX3_radius 2 = .ok (.iconst 0, 1) := by decide +kernel
theorem dX3_radius_3 : decode cX3_radius 3 = .ok (.istore_n 3, 1) := by decide +kernel
theorem dX3_radius_4 : decode cX3_radius 4 = .ok (.iload_n 3, 1) := by decide +kernel
theorem dX3_radius_5 : decode cX3_radius 5 = .ok (.aload_n 0, 1) := by decide +kernel
theorem dX3_radius_6 : decode cX3_radius 6 = .ok (.getfield 21, 3) := by decide +kernel
theorem dX3_radius_9 : decode cX3_radius 9 = .ok (.if_icmp .ge 25, 3) := by decide +kernel
theorem dX3_radius_12 : decode cX3_radius 12 = .ok (.iload_n 2, 1) := by decide +kernel
theorem dX3_radius_13 : decode cX3_radius 13 = .ok (.aload_n 0, 1) := by decide +kernel
theorem dX3_radius_14 : decode cX3_radius 14 = .ok (.iload_n 3, 1) := by decide +kernel
theorem dX3_radius_15 : decode cX3_radius 15 = .ok (.aload_n 0, 1) := by decide +kernel
theorem dX3_radius_16 : decode cX3_radius 16 = .ok (.aload_n 1, 1) := by decide +kernel
theorem dX3_radius_17 : decode cX3_radius 17 = .ok (.iload_n 3, 1) := by decide +kernel
theorem dX3_radius_18 : decode cX3_radius 18 = .ok (.invokevirtual 81, 3) := by decide +kernel
theorem dX3_radius_21 : decode cX3_radius 21 = .ok (.invokevirtual 52, 3) := by decide +kernel
theorem dX3_radius_24 : decode cX3_radius 24 = .ok (.invokestatic 85, 3) := by decide +kernel
theorem dX3_radius_27 : decode cX3_radius 27 = .ok (.istore_n 2, 1) := by decide +kernel
theorem dX3_radius_28 : decode cX3_radius 28 = .ok (.iinc 3 1, 3) := by decide +kernel
theorem dX3_radius_31 : decode cX3_radius 31 = .ok (.goto (-27), 3) := by decide +kernel
theorem dX3_radius_34 : decode cX3_radius 34 = .ok (.iload_n 2, 1) := by decide +kernel
theorem dX3_radius_35 : decode cX3_radius 35 = .ok (.ireturn, 1) := by decide +kernel
theorem dX3_closest_0 : decode cX3_closest 0 = .ok (.iconst 0, 1) := by decide +kernel
theorem dX3_closest_1 : decode cX3_closest 1 = .ok (.istore_n 3, 1) := by decide +kernel
theorem dX3_closest_2 : decode cX3_closest 2 = .ok (.ldc 75, 2) := by decide +kernel
theorem dX3_closest_4 : decode cX3_closest 4 = .ok (.istore 4, 2) := by decide +kernel
theorem dX3_closest_6 : decode cX3_closest 6 = .ok (.iconst 0, 1) := by decide +kernel
theorem dX3_closest_7 : decode cX3_closest 7 = .ok (.istore 5, 2) := by decide +kernel
theorem dX3_closest_9 : decode cX3_closest 9 = .ok (.iload 5, 2) := by decide +kernel
theorem dX3_closest_11 : decode cX3_closest 11 = .ok (.aload_n 0, 1) := by decide +kernel
theorem dX3_closest_12 : decode cX3_closest 12 = .ok (.getfield 21, 3) := by decide +kernel
theorem dX3_closest_15 : decode cX3_closest 15 = .ok (.if_icmp .ge 42, 3) := by decide +kernel
theorem dX3_closest_18 : decode cX3_closest 18 = .ok (.aload_n 1, 1) := by decide +kernel
theorem dX3_closest_19 : decode cX3_closest 19 = .ok (.iload 5, 2) := by decide +kernel
theorem dX3_closest_21 : decode cX3_closest 21 = .ok (.invokevirtual 65, 3) := by decide +kernel
theorem dX3_closest_24 : decode cX3_closest 24 = .ok (.ifCond .eq 27, 3) := by decide +kernel
theorem dX3_closest_27 : decode cX3_closest 27 = .ok (.aload_n 0, 1) := by decide +kernel
theorem dX3_closest_28 : decode cX3_closest 28 = .ok (.iload_n 2, 1) := by decide +kernel
theorem dX3_closest_29 : decode cX3_closest 29 = .ok (.iload 5, 2) := by decide +kernel
theorem dX3_closest_31 : decode cX3_closest 31 = .ok (.invokevirtual 52, 3) := by decide +kernel
theorem dX3_closest_34 : decode cX3_closest 34 = .ok (.iload 4, 2) := by decide +kernel
theorem dX3_closest_36 : decode cX3_closest 36 = .ok (.if_icmp .ge 15, 3) := by decide +kernel
theorem dX3_closest_39 : decode cX3_closest 39 = .ok (.aload_n 0, 1) := by decide +kernel
theorem dX3_closest_40 : decode cX3_closest 40 = .ok (.iload_n 2, 1) := by decide +kernel
theorem dX3_closest_41 : decode cX3_closest 41 = .ok (.iload 5, 2) := by decide +kernel
theorem dX3_closest_43 : decode cX3_closest 43 = .ok (.invokevirtual 52, 3) := by decide +kernel
theorem dX3_closest_46 : decode cX3_closest 46 = .ok (.istore 4, 2) := by decide +kernel
theorem dX3_closest_48 : decode cX3_closest 48 = .ok (.iload 5, 2) := by decide +kernel
theorem dX3_closest_50 : decode cX3_closest 50 = .ok (.istore_n 3, 1) := by decide +kernel
theorem dX3_closest_51 : decode cX3_closest 51 = .ok (.iinc 5 1, 3) := by decide +kernel
theorem dX3_closest_54 : decode cX3_closest 54 = .ok (.goto (-45), 3) := by decide +kernel
theorem dX3_closest_57 : decode cX3_closest 57 = .ok (.iload_n 3, 1) := by decide +kernel
theorem dX3_closest_58 : decode cX3_closest 58 = .ok (.ireturn, 1) := by decide +kernel
theorem dX3_farthest_0 : decode cX3_farthest 0 = .ok (.iconst 0, 1) := by decide +kernel
theorem dX3_farthest_1 : decode cX3_farthest 1 = .ok (.istore_n 3, 1) := by decide +kernel
theorem dX3_farthest_2 : decode cX3_farthest 2 = .ok (.iconst 0, 1) := by decide +kernel
theorem dX3_farthest_3 : decode cX3_farthest 3 = .ok (.istore 4, 2) := by decide +kernel
theorem dX3_farthest_5 : decode cX3_farthest 5 = .ok (.iload 4, 2) := by decide +kernel
theorem dX3_farthest_7 : decode cX3_farthest 7 = .ok (.aload_n 0, 1) := by decide +kernel
theorem dX3_farthest_8 : decode cX3_farthest 8 = .ok (.getfield 21, 3) := by decide +kernel
theorem dX3_farthest_11 : decode cX3_farthest 11 = .ok (.if_icmp .ge 30, 3) := by decide +kernel
theorem dX3_farthest_14 : decode cX3_farthest 14 = .ok (.aload_n 1, 1) := by decide +kernel
theorem dX3_farthest_15 : decode cX3_farthest 15 = .ok (.iload 4, 2) := by decide +kernel
theorem dX3_farthest_17 : decode cX3_farthest 17 = .ok (.invokevirtual 65, 3) := by decide +kernel
theorem dX3_farthest_20 : decode cX3_farthest 20 = .ok (.ifCond .eq 15, 3) := by decide +kernel
theorem dX3_farthest_23 : decode cX3_farthest 23 = .ok (.iload_n 3, 1) := by decide +kernel
theorem dX3_farthest_24 : decode cX3_farthest 24 = .ok (.aload_n 0, 1) := by decide +kernel
theorem dX3_farthest_25 : decode cX3_farthest 25 = .ok (.iload_n 2, 1) := by decide +kernel
theorem dX3_farthest_26 : decode cX3_farthest 26 = .ok (.iload 4, 2) := by decide +kernel
theorem dX3_farthest_28 : decode cX3_farthest 28 = .ok (.invokevirtual 52, 3) := by decide +kernel
theorem dX3_farthest_31 : decode cX3_farthest 31 = .ok (.invokestatic 85, 3) := by decide +kernel
theorem dX3_farthest_34 : decode cX3_farthest 34 = .ok (.istore_n 3, 1) := by decide +kernel
theorem dX3_farthest_35 : decode cX3_farthest 35 = .ok (.iinc 4 1, 3) := by decide +kernel
theorem dX3_farthest_38 : decode cX3_farthest 38 = .ok (.goto (-33), 3) := by decide +kernel
theorem dX3_farthest_41 : decode cX3_farthest 41 = .ok (.iload_n 3, 1) := by decide +kernel
theorem dX3_farthest_42 : decode cX3_farthest 42 = .ok (.ireturn, 1) := by decide +kernel
theorem dX3_middle_0 : decode cX3_middle 0 = .ok (.iconst 0, 1) := by decide +kernel
theorem dX3_middle_1 : decode cX3_middle 1 = .ok (.istore_n 2, 1) := by decide +kernel
theorem dX3_middle_2 : decode cX3_middle 2 = .ok (.ldc 75, 2) := by decide +kernel
theorem dX3_middle_4 : decode cX3_middle 4 = .ok (.istore_n 3, 1) := by decide +kernel
theorem dX3_middle_5 : decode cX3_middle 5 = .ok (.iconst 0, 1) := by decide +kernel
theorem dX3_middle_6 : decode cX3_middle 6 = .ok (.istore 4, 2) := by decide +kernel
theorem dX3_middle_8 : decode cX3_middle 8 = .ok (.iload 4, 2) := by decide +kernel
theorem dX3_middle_10 : decode cX3_middle 10 = .ok (.aload_n 0, 1) := by decide +kernel
theorem dX3_middle_11 : decode cX3_middle 11 = .ok (.getfield 21, 3) := by decide +kernel
theorem dX3_middle_14 : decode cX3_middle 14 = .ok (.if_icmp .ge 30, 3) := by decide +kernel
theorem dX3_middle_17 : decode cX3_middle 17 = .ok (.aload_n 0, 1) := by decide +kernel
theorem dX3_middle_18 : decode cX3_middle 18 = .ok (.aload_n 1, 1) := by decide +kernel
theorem dX3_middle_19 : decode cX3_middle 19 = .ok (.iload 4, 2) := by decide +kernel
theorem dX3_middle_21 : decode cX3_middle 21 = .ok (.invokevirtual 88, 3) := by decide +kernel
theorem dX3_middle_24 : decode cX3_middle 24 = .ok (.istore 5, 2) := by decide +kernel
theorem dX3_middle_26 : decode cX3_middle 26 = .ok (.iload 5, 2) := by decide +kernel
theorem dX3_middle_28 : decode cX3_middle 28 = .ok (.iload_n 3, 1) := by decide +kernel
theorem dX3_middle_29 : decode cX3_middle 29 = .ok (.if_icmp .ge 9, 3) := by decide +kernel
theorem dX3_middle_32 : decode cX3_middle 32 = .ok (.iload 5, 2) := by decide +kernel
theorem dX3_middle_34 : decode cX3_middle 34 = .ok (.istore_n 3, 1) := by decide +kernel
theorem dX3_middle_35 : decode cX3_middle 35 = .ok (.iload 4, 2) := by decide +kernel
theorem dX3_middle_37 : decode cX3_middle 37 = .ok (.istore_n 2, 1) := by decide +kernel
theorem dX3_middle_38 : decode cX3_middle 38 = .ok (.iinc 4 1, 3) := by decide +kernel
theorem dX3_middle_41 : decode cX3_middle 41 = .ok (.goto (-33), 3) := by decide +kernel
theorem dX3_middle_44 : decode cX3_middle 44 = .ok (.iload_n 2, 1) := by decide +kernel
theorem dX3_middle_45 : decode cX3_middle 45 = .ok (.ireturn, 1) := by decide +kernel
theorem dX3_codewordsAt_0 : decode cX3_codewordsAt 0 = .ok (.iconst 0, 1) := by decide +kernel
theorem dX3_codewordsAt_1 : decode cX3_codewordsAt 1 = .ok (.istore 4, 2) := by decide +kernel
theorem dX3_codewordsAt_3 : decode cX3_codewordsAt 3 = .ok (.iconst 0, 1) := by decide +kernel
theorem dX3_codewordsAt_4 : decode cX3_codewordsAt 4 = .ok (.istore 5, 2) := by decide +kernel
theorem dX3_codewordsAt_6 : decode cX3_codewordsAt 6 = .ok (.iload 5, 2) := by decide +kernel
theorem dX3_codewordsAt_8 : decode cX3_codewordsAt 8 = .ok (.aload_n 0, 1) := by decide +kernel
theorem dX3_codewordsAt_9 : decode cX3_codewordsAt 9 = .ok (.getfield 21, 3) := by decide +kernel
theorem dX3_codewordsAt_12 : decode cX3_codewordsAt 12 = .ok (.if_icmp .ge 32, 3) := by decide +kernel
theorem dX3_codewordsAt_15 : decode cX3_codewordsAt 15 = .ok (.aload_n 1, 1) := by decide +kernel
theorem dX3_codewordsAt_16 : decode cX3_codewordsAt 16 = .ok (.iload 5, 2) := by decide +kernel
theorem dX3_codewordsAt_18 : decode cX3_codewordsAt 18 = .ok (.invokevirtual 65, 3) := by decide +kernel
theorem dX3_codewordsAt_21 : decode cX3_codewordsAt 21 = .ok (.ifCond .eq 17, 3) := by decide +kernel
theorem dX3_codewordsAt_24 : decode cX3_codewordsAt 24 = .ok (.aload_n 0, 1) := by decide +kernel
theorem dX3_codewordsAt_25 : decode cX3_codewordsAt 25 = .ok (.iload_n 2, 1) := by decide +kernel
theorem dX3_codewordsAt_26 : decode cX3_codewordsAt 26 = .ok (.iload 5, 2) := by decide +kernel
theorem dX3_codewordsAt_28 : decode cX3_codewordsAt 28 = .ok (.invokevirtual 52, 3) := by decide +kernel
theorem dX3_codewordsAt_31 : decode cX3_codewordsAt 31 = .ok (.iload_n 3, 1) := by decide +kernel
theorem dX3_codewordsAt_32 : decode cX3_codewordsAt 32 = .ok (.if_icmp .ne 6, 3) := by decide +kernel
theorem dX3_codewordsAt_35 : decode cX3_codewordsAt 35 = .ok (.iinc 4 1, 3) := by decide +kernel
theorem dX3_codewordsAt_38 : decode cX3_codewordsAt 38 = .ok (.iinc 5 1, 3) := by decide +kernel
theorem dX3_codewordsAt_41 : decode cX3_codewordsAt 41 = .ok (.goto (-35), 3) := by decide +kernel
theorem dX3_codewordsAt_44 : decode cX3_codewordsAt 44 = .ok (.iload 4, 2) := by decide +kernel
theorem dX3_codewordsAt_46 : decode cX3_codewordsAt 46 = .ok (.ireturn, 1) := by decide +kernel
theorem dX3_codewordsWith_0 : decode cX3_codewordsWith 0 = .ok (.iconst 0, 1) := by decide +kernel
theorem dX3_codewordsWith_1 : decode cX3_codewordsWith 1 = .ok (.istore 4, 2) := by decide +kernel
theorem dX3_codewordsWith_3 : decode cX3_codewordsWith 3 = .ok (.iconst 0, 1) := by decide +kernel
theorem dX3_codewordsWith_4 : decode cX3_codewordsWith 4 = .ok (.istore 5, 2) := by decide +kernel
theorem dX3_codewordsWith_6 : decode cX3_codewordsWith 6 = .ok (.iload 5, 2) := by decide +kernel
theorem dX3_codewordsWith_8 : decode cX3_codewordsWith 8 = .ok (.aload_n 0, 1) := by decide +kernel
theorem dX3_codewordsWith_9 : decode cX3_codewordsWith 9 = .ok (.getfield 21, 3) := by decide +kernel
theorem dX3_codewordsWith_12 : decode cX3_codewordsWith 12 = .ok (.if_icmp .ge 32, 3) := by decide +kernel
theorem dX3_codewordsWith_15 : decode cX3_codewordsWith 15 = .ok (.aload_n 1, 1) := by decide +kernel
theorem dX3_codewordsWith_16 : decode cX3_codewordsWith 16 = .ok (.iload 5, 2) := by decide +kernel
theorem dX3_codewordsWith_18 : decode cX3_codewordsWith 18 = .ok (.invokevirtual 65, 3) := by decide +kernel
theorem dX3_codewordsWith_21 : decode cX3_codewordsWith 21 = .ok (.ifCond .eq 17, 3) := by decide +kernel
theorem dX3_codewordsWith_24 : decode cX3_codewordsWith 24 = .ok (.aload_n 0, 1) := by decide +kernel
theorem dX3_codewordsWith_25 : decode cX3_codewordsWith 25 = .ok (.iload 5, 2) := by decide +kernel
theorem dX3_codewordsWith_27 : decode cX3_codewordsWith 27 = .ok (.iload_n 2, 1) := by decide +kernel
theorem dX3_codewordsWith_28 : decode cX3_codewordsWith 28 = .ok (.invokevirtual 91, 3) := by decide +kernel
theorem dX3_codewordsWith_31 : decode cX3_codewordsWith 31 = .ok (.iload_n 3, 1) := by decide +kernel
theorem dX3_codewordsWith_32 : decode cX3_codewordsWith 32 = .ok (.if_icmp .ne 6, 3) := by decide +kernel
theorem dX3_codewordsWith_35 : decode cX3_codewordsWith 35 = .ok (.iinc 4 1, 3) := by decide +kernel
theorem dX3_codewordsWith_38 : decode cX3_codewordsWith 38 = .ok (.iinc 5 1, 3) := by decide +kernel
theorem dX3_codewordsWith_41 : decode cX3_codewordsWith 41 = .ok (.goto (-35), 3) := by decide +kernel
theorem dX3_codewordsWith_44 : decode cX3_codewordsWith 44 = .ok (.iload 4, 2) := by decide +kernel
theorem dX3_codewordsWith_46 : decode cX3_codewordsWith 46 = .ok (.ireturn, 1) := by decide +kernel
theorem dX3_fill_0 : decode cX3_fill 0 = .ok (.aload_n 0, 1) := by decide +kernel
theorem dX3_fill_1 : decode cX3_fill 1 = .ok (.getfield 18, 3) := by decide +kernel
theorem dX3_fill_4 : decode cX3_fill 4 = .ok (.iconst 0, 1) := by decide +kernel
theorem dX3_fill_5 : decode cX3_fill 5 = .ok (.invokestatic 59, 3) := by decide +kernel
theorem dX3_fill_8 : decode cX3_fill 8 = .ok (.iconst 0, 1) := by decide +kernel
theorem dX3_fill_9 : decode cX3_fill 9 = .ok (.istore_n 3, 1) := by decide +kernel
theorem dX3_fill_10 : decode cX3_fill 10 = .ok (.iload_n 3, 1) := by decide +kernel
theorem dX3_fill_11 : decode cX3_fill 11 = .ok (.aload_n 0, 1) := by decide +kernel
theorem dX3_fill_12 : decode cX3_fill 12 = .ok (.getfield 21, 3) := by decide +kernel
theorem dX3_fill_15 : decode cX3_fill 15 = .ok (.if_icmp .ge 25, 3) := by decide +kernel
theorem dX3_fill_18 : decode cX3_fill 18 = .ok (.aload_n 0, 1) := by decide +kernel
theorem dX3_fill_19 : decode cX3_fill 19 = .ok (.getfield 15, 3) := by decide +kernel
theorem dX3_fill_22 : decode cX3_fill 22 = .ok (.iload_n 3, 1) := by decide +kernel
theorem dX3_fill_23 : decode cX3_fill 23 = .ok (.iaload, 1) := by decide +kernel
theorem dX3_fill_24 : decode cX3_fill 24 = .ok (.ifCond .ne 10, 3) := by decide +kernel
theorem dX3_fill_27 : decode cX3_fill 27 = .ok (.aload_n 0, 1) := by decide +kernel
theorem dX3_fill_28 : decode cX3_fill 28 = .ok (.iload_n 3, 1) := by decide +kernel
theorem dX3_fill_29 : decode cX3_fill 29 = .ok (.iload_n 2, 1) := by decide +kernel
theorem dX3_fill_30 : decode cX3_fill 30 = .ok (.iconst 1, 1) := by decide +kernel
theorem dX3_fill_31 : decode cX3_fill 31 = .ok (.invokevirtual 94, 3) := by decide +kernel
theorem dX3_fill_34 : decode cX3_fill 34 = .ok (.iinc 3 1, 3) := by decide +kernel
theorem dX3_fill_37 : decode cX3_fill 37 = .ok (.goto (-27), 3) := by decide +kernel
theorem dX3_fill_40 : decode cX3_fill 40 = .ok (.iconst 0, 1) := by decide +kernel
theorem dX3_fill_41 : decode cX3_fill 41 = .ok (.istore_n 3, 1) := by decide +kernel
theorem dX3_fill_42 : decode cX3_fill 42 = .ok (.iconst 0, 1) := by decide +kernel
theorem dX3_fill_43 : decode cX3_fill 43 = .ok (.istore 4, 2) := by decide +kernel
theorem dX3_fill_45 : decode cX3_fill 45 = .ok (.iload 4, 2) := by decide +kernel
theorem dX3_fill_47 : decode cX3_fill 47 = .ok (.aload_n 0, 1) := by decide +kernel
theorem dX3_fill_48 : decode cX3_fill 48 = .ok (.getfield 21, 3) := by decide +kernel
theorem dX3_fill_51 : decode cX3_fill 51 = .ok (.if_icmp .ge 44, 3) := by decide +kernel
theorem dX3_fill_54 : decode cX3_fill 54 = .ok (.aload_n 0, 1) := by decide +kernel
theorem dX3_fill_55 : decode cX3_fill 55 = .ok (.invokevirtual 97, 3) := by decide +kernel
theorem dX3_fill_58 : decode cX3_fill 58 = .ok (.istore 5, 2) := by decide +kernel
theorem dX3_fill_60 : decode cX3_fill 60 = .ok (.aload_n 0, 1) := by decide +kernel
theorem dX3_fill_61 : decode cX3_fill 61 = .ok (.getfield 18, 3) := by decide +kernel
theorem dX3_fill_64 : decode cX3_fill 64 = .ok (.iload 5, 2) := by decide +kernel
theorem dX3_fill_66 : decode cX3_fill 66 = .ok (.iaload, 1) := by decide +kernel
theorem dX3_fill_67 : decode cX3_fill 67 = .ok (.ifCond .ne 6, 3) := by decide +kernel
theorem dX3_fill_70 : decode cX3_fill 70 = .ok (.goto 25, 3) := by decide +kernel
theorem dX3_fill_73 : decode cX3_fill 73 = .ok (.aload_n 1, 1) := by decide +kernel
theorem dX3_fill_74 : decode cX3_fill 74 = .ok (.iload 5, 2) := by decide +kernel
theorem dX3_fill_76 : decode cX3_fill 76 = .ok (.invokevirtual 101, 3) := by decide +kernel
theorem dX3_fill_79 : decode cX3_fill 79 = .ok (.aload_n 0, 1) := by decide +kernel
theorem dX3_fill_80 : decode cX3_fill 80 = .ok (.iload 5, 2) := by decide +kernel
theorem dX3_fill_82 : decode cX3_fill 82 = .ok (.iload_n 2, 1) := by decide +kernel
theorem dX3_fill_83 : decode cX3_fill 83 = .ok (.invokevirtual 105, 3) := by decide +kernel
theorem dX3_fill_86 : decode cX3_fill 86 = .ok (.iinc 3 1, 3) := by decide +kernel
theorem dX3_fill_89 : decode cX3_fill 89 = .ok (.iinc 4 1, 3) := by decide +kernel
theorem dX3_fill_92 : decode cX3_fill 92 = .ok (.goto (-47), 3) := by decide +kernel
theorem dX3_fill_95 : decode cX3_fill 95 = .ok (.iload_n 3, 1) := by decide +kernel
theorem dX3_fill_96 : decode cX3_fill 96 = .ok (.ireturn, 1) := by decide +kernel
theorem dX3_addGains_0 : decode cX3_addGains 0 = .ok (.iconst 0, 1) := by decide +kernel
theorem dX3_addGains_1 : decode cX3_addGains 1 = .ok (.istore 4, 2) := by decide +kernel
theorem dX3_addGains_3 : decode cX3_addGains 3 = .ok (.iload 4, 2) := by decide +kernel
theorem dX3_addGains_5 : decode cX3_addGains 5 = .ok (.aload_n 0, 1) := by decide +kernel
theorem dX3_addGains_6 : decode cX3_addGains 6 = .ok (.getfield 21, 3) := by decide +kernel
theorem dX3_addGains_9 : decode cX3_addGains 9 = .ok (.if_icmp .ge 31, 3) := by decide +kernel
theorem dX3_addGains_12 : decode cX3_addGains 12 = .ok (.aload_n 0, 1) := by decide +kernel
theorem dX3_addGains_13 : decode cX3_addGains 13 = .ok (.iload_n 1, 1) := by decide +kernel
theorem dX3_addGains_14 : decode cX3_addGains 14 = .ok (.iload 4, 2) := by decide +kernel
theorem dX3_addGains_16 : decode cX3_addGains 16 = .ok (.invokevirtual 52, 3) := by decide +kernel
theorem dX3_addGains_19 : decode cX3_addGains 19 = .ok (.iload_n 2, 1) := by decide +kernel
theorem dX3_addGains_20 : decode cX3_addGains 20 = .ok (.if_icmp .gt 14, 3) := by decide +kernel
theorem dX3_addGains_23 : decode cX3_addGains 23 = .ok (.aload_n 0, 1) := by decide +kernel
theorem dX3_addGains_24 : decode cX3_addGains 24 = .ok (.getfield 18, 3) := by decide +kernel
theorem dX3_addGains_27 : decode cX3_addGains 27 = .ok (.iload 4, 2) := by decide +kernel
theorem dX3_addGains_29 : decode cX3_addGains 29 = .ok (.dup2, 1) := by decide +kernel
theorem dX3_addGains_30 : decode cX3_addGains 30 = .ok (.iaload, 1) := by decide +kernel
theorem dX3_addGains_31 : decode cX3_addGains 31 = .ok (.iload_n 3, 1) := by decide +kernel
theorem dX3_addGains_32 : decode cX3_addGains 32 = .ok (.iadd, 1) := by decide +kernel
theorem dX3_addGains_33 : decode cX3_addGains 33 = .ok (.iastore, 1) := by decide +kernel
theorem dX3_addGains_34 : decode cX3_addGains 34 = .ok (.iinc 4 1, 3) := by decide +kernel
theorem dX3_addGains_37 : decode cX3_addGains 37 = .ok (.goto (-34), 3) := by decide +kernel
theorem dX3_addGains_40 : decode cX3_addGains 40 = .ok (.return_, 1) := by decide +kernel
theorem dX3_mostGain_0 : decode cX3_mostGain 0 = .ok (.iconst 0, 1) := by decide +kernel
theorem dX3_mostGain_1 : decode cX3_mostGain 1 = .ok (.istore_n 1, 1) := by decide +kernel
theorem dX3_mostGain_2 : decode cX3_mostGain 2 = .ok (.iconst 1, 1) := by decide +kernel
theorem dX3_mostGain_3 : decode cX3_mostGain 3 = .ok (.istore_n 2, 1) := by decide +kernel
theorem dX3_mostGain_4 : decode cX3_mostGain 4 = .ok (.iload_n 2, 1) := by decide +kernel
theorem dX3_mostGain_5 : decode cX3_mostGain 5 = .ok (.aload_n 0, 1) := by decide +kernel
theorem dX3_mostGain_6 : decode cX3_mostGain 6 = .ok (.getfield 21, 3) := by decide +kernel
theorem dX3_mostGain_9 : decode cX3_mostGain 9 = .ok (.if_icmp .ge 26, 3) := by decide +kernel
theorem dX3_mostGain_12 : decode cX3_mostGain 12 = .ok (.aload_n 0, 1) := by decide +kernel
theorem dX3_mostGain_13 : decode cX3_mostGain 13 = .ok (.getfield 18, 3) := by decide +kernel
theorem dX3_mostGain_16 : decode cX3_mostGain 16 = .ok (.iload_n 2, 1) := by decide +kernel
theorem dX3_mostGain_17 : decode cX3_mostGain 17 = .ok (.iaload, 1) := by decide +kernel
theorem dX3_mostGain_18 : decode cX3_mostGain 18 = .ok (.aload_n 0, 1) := by decide +kernel
theorem dX3_mostGain_19 : decode cX3_mostGain 19 = .ok (.getfield 18, 3) := by decide +kernel
theorem dX3_mostGain_22 : decode cX3_mostGain 22 = .ok (.iload_n 1, 1) := by decide +kernel
theorem dX3_mostGain_23 : decode cX3_mostGain 23 = .ok (.iaload, 1) := by decide +kernel
theorem dX3_mostGain_24 : decode cX3_mostGain 24 = .ok (.if_icmp .le 5, 3) := by decide +kernel
theorem dX3_mostGain_27 : decode cX3_mostGain 27 = .ok (.iload_n 2, 1) := by decide +kernel
theorem dX3_mostGain_28 : decode cX3_mostGain 28 = .ok (.istore_n 1, 1) := by decide +kernel
theorem dX3_mostGain_29 : decode cX3_mostGain 29 = .ok (.iinc 2 1, 3) := by decide +kernel
theorem dX3_mostGain_32 : decode cX3_mostGain 32 = .ok (.goto (-28), 3) := by decide +kernel
theorem dX3_mostGain_35 : decode cX3_mostGain 35 = .ok (.iload_n 1, 1) := by decide +kernel
theorem dX3_mostGain_36 : decode cX3_mostGain 36 = .ok (.ireturn, 1) := by decide +kernel
theorem dX3_fillHolesNear_0 : decode cX3_fillHolesNear 0 = .ok (.iconst 0, 1) := by decide +kernel
theorem dX3_fillHolesNear_1 : decode cX3_fillHolesNear 1 = .ok (.istore_n 3, 1) := by decide +kernel
theorem dX3_fillHolesNear_2 : decode cX3_fillHolesNear 2 = .ok (.iload_n 3, 1) := by decide +kernel
theorem dX3_fillHolesNear_3 : decode cX3_fillHolesNear 3 = .ok (.aload_n 0, 1) := by decide +kernel
theorem dX3_fillHolesNear_4 : decode cX3_fillHolesNear 4 = .ok (.getfield 21, 3) := by decide +kernel
theorem dX3_fillHolesNear_7 : decode cX3_fillHolesNear 7 = .ok (.if_icmp .ge 42, 3) := by decide +kernel
theorem dX3_fillHolesNear_10 : decode cX3_fillHolesNear 10 = .ok (.aload_n 0, 1) := by decide +kernel
theorem dX3_fillHolesNear_11 : decode cX3_fillHolesNear 11 = .ok (.getfield 15, 3) := by decide +kernel
theorem dX3_fillHolesNear_14 : decode cX3_fillHolesNear 14 = .ok (.iload_n 3, 1) := by decide +kernel
theorem dX3_fillHolesNear_15 : decode cX3_fillHolesNear 15 = .ok (.iaload, 1) := by decide +kernel
theorem dX3_fillHolesNear_16 : decode cX3_fillHolesNear 16 = .ok (.ifCond .ne 27, 3) := by decide +kernel
theorem dX3_fillHolesNear_19 : decode cX3_fillHolesNear 19 = .ok (.aload_n 0, 1) := by decide +kernel
theorem dX3_fillHolesNear_20 : decode cX3_fillHolesNear 20 = .ok (.iload_n 1, 1) := by decide +kernel
theorem dX3_fillHolesNear_21 : decode cX3_fillHolesNear 21 = .ok (.iload_n 3, 1) := by decide +kernel
theorem dX3_fillHolesNear_22 : decode cX3_fillHolesNear 22 = .ok (.invokevirtual 52, 3) := by decide +kernel
theorem dX3_fillHolesNear_25 : decode cX3_fillHolesNear 25 = .ok (.iload_n 2, 1) := by decide +kernel
theorem dX3_fillHolesNear_26 : decode cX3_fillHolesNear 26 = .ok (.if_icmp .gt 17, 3) := by decide +kernel
theorem dX3_fillHolesNear_29 : decode cX3_fillHolesNear 29 = .ok (.aload_n 0, 1) := by decide +kernel
theorem dX3_fillHolesNear_30 : decode cX3_fillHolesNear 30 = .ok (.getfield 15, 3) := by decide +kernel
theorem dX3_fillHolesNear_33 : decode cX3_fillHolesNear 33 = .ok (.iload_n 3, 1) := by decide +kernel
theorem dX3_fillHolesNear_34 : decode cX3_fillHolesNear 34 = .ok (.iconst 1, 1) := by decide +kernel
theorem dX3_fillHolesNear_35 : decode cX3_fillHolesNear 35 = .ok (.iastore, 1) := by decide +kernel
theorem dX3_fillHolesNear_36 : decode cX3_fillHolesNear 36 = .ok (.aload_n 0, 1) := by decide +kernel
theorem dX3_fillHolesNear_37 : decode cX3_fillHolesNear 37 = .ok (.iload_n 3, 1) := by decide +kernel
theorem dX3_fillHolesNear_38 : decode cX3_fillHolesNear 38 = .ok (.iload_n 2, 1) := by decide +kernel
theorem dX3_fillHolesNear_39 : decode cX3_fillHolesNear 39 = .ok (.iconst (-1), 1) := by decide +kernel
theorem dX3_fillHolesNear_40 : decode cX3_fillHolesNear 40 = .ok (.invokevirtual 94, 3) := by decide +kernel
theorem dX3_fillHolesNear_43 : decode cX3_fillHolesNear 43 = .ok (.iinc 3 1, 3) := by decide +kernel
theorem dX3_fillHolesNear_46 : decode cX3_fillHolesNear 46 = .ok (.goto (-44), 3) := by decide +kernel
theorem dX3_fillHolesNear_49 : decode cX3_fillHolesNear 49 = .ok (.return_, 1) := by decide +kernel
theorem dX3_weed_0 : decode cX3_weed 0 = .ok (.iconst 0, 1) := by decide +kernel
theorem dX3_weed_1 : decode cX3_weed 1 = .ok (.istore_n 3, 1) := by decide +kernel
theorem dX3_weed_2 : decode cX3_weed 2 = .ok (.aload_n 0, 1) := by decide +kernel
theorem dX3_weed_3 : decode cX3_weed 3 = .ok (.getfield 21, 3) := by decide +kernel
theorem dX3_weed_6 : decode cX3_weed 6 = .ok (.iconst 1, 1) := by decide +kernel
theorem dX3_weed_7 : decode cX3_weed 7 = .ok (.isub, 1) := by decide +kernel
theorem dX3_weed_8 : decode cX3_weed 8 = .ok (.istore 4, 2) := by decide +kernel
theorem dX3_weed_10 : decode cX3_weed 10 = .ok (.iload 4, 2) := by decide +kernel
theorem dX3_weed_12 : decode cX3_weed 12 = .ok (.ifCond .lt 45, 3) := by decide +kernel
theorem dX3_weed_15 : decode cX3_weed 15 = .ok (.aload_n 1, 1) := by decide +kernel
theorem dX3_weed_16 : decode cX3_weed 16 = .ok (.iload 4, 2) := by decide +kernel
theorem dX3_weed_18 : decode cX3_weed 18 = .ok (.invokevirtual 65, 3) := by decide +kernel
theorem dX3_weed_21 : decode cX3_weed 21 = .ok (.ifCond .eq 30, 3) := by decide +kernel
theorem dX3_weed_24 : decode cX3_weed 24 = .ok (.aload_n 0, 1) := by decide +kernel
theorem dX3_weed_25 : decode cX3_weed 25 = .ok (.iload 4, 2) := by decide +kernel
theorem dX3_weed_27 : decode cX3_weed 27 = .ok (.iload_n 2, 1) := by decide +kernel
theorem dX3_weed_28 : decode cX3_weed 28 = .ok (.invokevirtual 72, 3) := by decide +kernel
theorem dX3_weed_31 : decode cX3_weed 31 = .ok (.ifCond .ne 20, 3) := by decide +kernel
theorem dX3_weed_34 : decode cX3_weed 34 = .ok (.aload_n 1, 1) := by decide +kernel
theorem dX3_weed_35 : decode cX3_weed 35 = .ok (.iload 4, 2) := by decide +kernel
theorem dX3_weed_37 : decode cX3_weed 37 = .ok (.invokevirtual 109, 3) := by decide +kernel
theorem dX3_weed_40 : decode cX3_weed 40 = .ok (.aload_n 0, 1) := by decide +kernel
theorem dX3_weed_41 : decode cX3_weed 41 = .ok (.iload 4, 2) := by decide +kernel
theorem dX3_weed_43 : decode cX3_weed 43 = .ok (.iload_n 2, 1) := by decide +kernel
theorem dX3_weed_44 : decode cX3_weed 44 = .ok (.iconst (-1), 1) := by decide +kernel
theorem dX3_weed_45 : decode cX3_weed 45 = .ok (.invokevirtual 69, 3) := by decide +kernel
theorem dX3_weed_48 : decode cX3_weed 48 = .ok (.iinc 3 1, 3) := by decide +kernel
theorem dX3_weed_51 : decode cX3_weed 51 = .ok (.iinc 4 (-1), 3) := by decide +kernel
theorem dX3_weed_54 : decode cX3_weed 54 = .ok (.goto (-44), 3) := by decide +kernel
theorem dX3_weed_57 : decode cX3_weed 57 = .ok (.iload_n 3, 1) := by decide +kernel
theorem dX3_weed_58 : decode cX3_weed 58 = .ok (.ireturn, 1) := by decide +kernel
theorem dX4_init_0 : decode cX4_init 0 = .ok (.aload_n 0, 1) := by decide +kernel
theorem dX4_init_1 : decode cX4_init 1 = .ok (.invokespecial 3, 3) := by decide +kernel
theorem dX4_init_4 : decode cX4_init 4 = .ok (.aload_n 0, 1) := by decide +kernel
theorem dX4_init_5 : decode cX4_init 5 = .ok (.bipush 10, 2) := by decide +kernel
theorem dX4_init_7 : decode cX4_init 7 = .ok (.anewarray 9, 3) := by decide +kernel
theorem dX4_init_10 : decode cX4_init 10 = .ok (.putfield 11, 3) := by decide +kernel
theorem dX4_init_13 : decode cX4_init 13 = .ok (.aload_n 0, 1) := by decide +kernel
theorem dX4_init_14 : decode cX4_init 14 = .ok (.bipush 10, 2) := by decide +kernel
theorem dX4_init_16 : decode cX4_init 16 = .ok (.newarray .int, 2) := by decide +kernel
theorem dX4_init_18 : decode cX4_init 18 = .ok (.putfield 17, 3) := by decide +kernel
theorem dX4_init_21 : decode cX4_init 21 = .ok (.iconst 0, 1) := by decide +kernel
theorem dX4_init_22 : decode cX4_init 22 = .ok (.istore_n 1, 1) := by decide +kernel
theorem dX4_init_23 : decode cX4_init 23 = .ok (.iload_n 1, 1) := by decide +kernel
theorem dX4_init_24 : decode cX4_init 24 = .ok (.aload_n 0, 1) := by decide +kernel
theorem dX4_init_25 : decode cX4_init 25 = .ok (.getfield 11, 3) := by decide +kernel
theorem dX4_init_28 : decode cX4_init 28 = .ok (.arraylength, 1) := by decide +kernel
theorem dX4_init_29 : decode cX4_init 29 = .ok (.if_icmp .ge 22, 3) := by decide +kernel
theorem dX4_init_32 : decode cX4_init 32 = .ok (.aload_n 0, 1) := by decide +kernel
theorem dX4_init_33 : decode cX4_init 33 = .ok (.getfield 11, 3) := by decide +kernel
theorem dX4_init_36 : decode cX4_init 36 = .ok (.iload_n 1, 1) := by decide +kernel
theorem dX4_init_37 : decode cX4_init 37 = .ok (.new 9, 3) := by decide +kernel
theorem dX4_init_40 : decode cX4_init 40 = .ok (.dup, 1) := by decide +kernel
theorem dX4_init_41 : decode cX4_init 41 = .ok (.invokespecial 21, 3) := by decide +kernel
theorem dX4_init_44 : decode cX4_init 44 = .ok (.aastore, 1) := by decide +kernel
theorem dX4_init_45 : decode cX4_init 45 = .ok (.iinc 1 1, 3) := by decide +kernel
theorem dX4_init_48 : decode cX4_init 48 = .ok (.goto (-25), 3) := by decide +kernel
theorem dX4_init_51 : decode cX4_init 51 = .ok (.return_, 1) := by decide +kernel
theorem dX4_forget_0 : decode cX4_forget 0 = .ok (.aload_n 0, 1) := by decide +kernel
theorem dX4_forget_1 : decode cX4_forget 1 = .ok (.iconst 0, 1) := by decide +kernel
theorem dX4_forget_2 : decode cX4_forget 2 = .ok (.putfield 22, 3) := by decide +kernel
theorem dX4_forget_5 : decode cX4_forget 5 = .ok (.return_, 1) := by decide +kernel
theorem dX4_keep_0 : decode cX4_keep 0 = .ok (.aload_n 0, 1) := by decide +kernel
theorem dX4_keep_1 : decode cX4_keep 1 = .ok (.getfield 11, 3) := by decide +kernel
theorem dX4_keep_4 : decode cX4_keep 4 = .ok (.aload_n 0, 1) := by decide +kernel
theorem dX4_keep_5 : decode cX4_keep 5 = .ok (.getfield 26, 3) := by decide +kernel
theorem dX4_keep_8 : decode cX4_keep 8 = .ok (.aaload, 1) := by decide +kernel
theorem dX4_keep_9 : decode cX4_keep 9 = .ok (.aload_n 2, 1) := by decide +kernel
theorem dX4_keep_10 : decode cX4_keep 10 = .ok (.invokevirtual 29, 3) := by decide +kernel
theorem dX4_keep_13 : decode cX4_keep 13 = .ok (.aload_n 0, 1) := by decide +kernel
theorem dX4_keep_14 : decode cX4_keep 14 = .ok (.getfield 17, 3) := by decide +kernel
theorem dX4_keep_17 : decode cX4_keep 17 = .ok (.aload_n 0, 1) := by decide +kernel
theorem dX4_keep_18 : decode cX4_keep 18 = .ok (.getfield 26, 3) := by decide +kernel
theorem dX4_keep_21 : decode cX4_keep 21 = .ok (.iload_n 1, 1) := by decide +kernel
theorem dX4_keep_22 : decode cX4_keep 22 = .ok (.iastore, 1) := by decide +kernel
theorem dX4_keep_23 : decode cX4_keep 23 = .ok (.aload_n 0, 1) := by decide +kernel
theorem dX4_keep_24 : decode cX4_keep 24 = .ok (.aload_n 0, 1) := by decide +kernel
theorem dX4_keep_25 : decode cX4_keep 25 = .ok (.getfield 26, 3) := by decide +kernel
theorem dX4_keep_28 : decode cX4_keep 28 = .ok (.iconst 1, 1) := by decide +kernel
theorem dX4_keep_29 : decode cX4_keep 29 = .ok (.iadd, 1) := by decide +kernel
theorem dX4_keep_30 : decode cX4_keep 30 = .ok (.bipush 10, 2) := by decide +kernel
theorem dX4_keep_32 : decode cX4_keep 32 = .ok (.if_icmp .ge 12, 3) := by decide +kernel
theorem dX4_keep_35 : decode cX4_keep 35 = .ok (.aload_n 0, 1) := by decide +kernel
theorem dX4_keep_36 : decode cX4_keep 36 = .ok (.getfield 26, 3) := by decide +kernel
theorem dX4_keep_39 : decode cX4_keep 39 = .ok (.iconst 1, 1) := by decide +kernel
theorem dX4_keep_40 : decode cX4_keep 40 = .ok (.iadd, 1) := by decide +kernel
theorem dX4_keep_41 : decode cX4_keep 41 = .ok (.goto 4, 3) := by decide +kernel
theorem dX4_keep_44 : decode cX4_keep 44 = .ok (.iconst 0, 1) := by decide +kernel
theorem dX4_keep_45 : decode cX4_keep 45 = .ok (.putfield 26, 3) := by decide +kernel
theorem dX4_keep_48 : decode cX4_keep 48 = .ok (.aload_n 0, 1) := by decide +kernel
theorem dX4_keep_49 : decode cX4_keep 49 = .ok (.aload_n 0, 1) := by decide +kernel
theorem dX4_keep_50 : decode cX4_keep 50 = .ok (.getfield 22, 3) := by decide +kernel
theorem dX4_keep_53 : decode cX4_keep 53 = .ok (.iconst 1, 1) := by decide +kernel
theorem dX4_keep_54 : decode cX4_keep 54 = .ok (.iadd, 1) := by decide +kernel
theorem dX4_keep_55 : decode cX4_keep 55 = .ok (.bipush 10, 2) := by decide +kernel
theorem dX4_keep_57 : decode cX4_keep 57 = .ok (.invokestatic 33, 3) := by decide +kernel
theorem dX4_keep_60 : decode cX4_keep 60 = .ok (.putfield 22, 3) := by decide +kernel
theorem dX4_keep_63 : decode cX4_keep 63 = .ok (.return_, 1) := by decide +kernel
theorem dX4_giveBack_0 : decode cX4_giveBack 0 = .ok (.aload_n 0, 1) := by decide +kernel
theorem dX4_giveBack_1 : decode cX4_giveBack 1 = .ok (.getfield 22, 3) := by decide +kernel
theorem dX4_giveBack_4 : decode cX4_giveBack 4 = .ok (.iconst 1, 1) := by decide +kernel
theorem dX4_giveBack_5 : decode cX4_giveBack 5 = .ok (.if_icmp .ge 4, 3) := by decide +kernel
theorem dX4_giveBack_8 : decode cX4_giveBack 8 = .ok (.return_, 1) := by decide +kernel
theorem dX4_giveBack_9 : decode cX4_giveBack 9 = .ok (.aload_n 0, 1) := by decide +kernel
theorem dX4_giveBack_10 : decode cX4_giveBack 10 = .ok (.aload_n 0, 1) := by decide +kernel
theorem dX4_giveBack_11 : decode cX4_giveBack 11 = .ok (.getfield 26, 3) := by decide +kernel
theorem dX4_giveBack_14 : decode cX4_giveBack 14 = .ok (.ifCond .le 12, 3) := by decide +kernel
theorem dX4_giveBack_17 : decode cX4_giveBack 17 = .ok (.aload_n 0, 1) := by decide +kernel
theorem dX4_giveBack_18 : decode cX4_giveBack 18 = .ok (.getfield 26, 3) := by decide +kernel
theorem dX4_giveBack_21 : decode cX4_giveBack 21 = .ok (.iconst 1, 1) := by decide +kernel
theorem dX4_giveBack_22 : decode cX4_giveBack 22 = .ok (.isub, 1) := by decide +kernel
theorem dX4_giveBack_23 : decode cX4_giveBack 23 = .ok (.goto 5, 3) := by decide +kernel
theorem dX4_giveBack_26 : decode cX4_giveBack 26 = .ok (.bipush 9, 2) := by decide +kernel
theorem dX4_giveBack_28 : decode cX4_giveBack 28 = .ok (.putfield 26, 3) := by decide +kernel
theorem dX4_giveBack_31 : decode cX4_giveBack 31 = .ok (.aload_n 0, 1) := by decide +kernel
theorem dX4_giveBack_32 : decode cX4_giveBack 32 = .ok (.dup, 1) := by decide +kernel
theorem dX4_giveBack_33 : decode cX4_giveBack 33 = .ok (.getfield 22, 3) := by decide +kernel
theorem dX4_giveBack_36 : decode cX4_giveBack 36 = .ok (.iconst 1, 1) := by decide +kernel
theorem dX4_giveBack_37 : decode cX4_giveBack 37 = .ok (.isub, 1) := by decide +kernel
theorem dX4_giveBack_38 : decode cX4_giveBack 38 = .ok (.putfield 22, 3) := by decide +kernel
theorem dX4_giveBack_41 : decode cX4_giveBack 41 = .ok (.aload_n 1, 1) := by decide +kernel
theorem dX4_giveBack_42 : decode cX4_giveBack 42 = .ok (.aload_n 0, 1) := by decide +kernel
theorem dX4_giveBack_43 : decode cX4_giveBack 43 = .ok (.getfield 17, 3) := by decide +kernel
theorem dX4_giveBack_46 : decode cX4_giveBack 46 = .ok (.aload_n 0, 1) := by decide +kernel
theorem dX4_giveBack_47 : decode cX4_giveBack 47 = .ok (.getfield 26, 3) := by decide +kernel
theorem dX4_giveBack_50 : decode cX4_giveBack 50 = .ok (.iaload, 1) := by decide +kernel
theorem dX4_giveBack_51 : decode cX4_giveBack 51 = .ok (.aaload, 1) := by decide +kernel
theorem dX4_giveBack_52 : decode cX4_giveBack 52 = .ok (.aload_n 0, 1) := by decide +kernel
theorem dX4_giveBack_53 : decode cX4_giveBack 53 = .ok (.getfield 11, 3) := by decide +kernel
theorem dX4_giveBack_56 : decode cX4_giveBack 56 = .ok (.aload_n 0, 1) := by decide +kernel
theorem dX4_giveBack_57 : decode cX4_giveBack 57 = .ok (.getfield 26, 3) := by decide +kernel
theorem dX4_giveBack_60 : decode cX4_giveBack 60 = .ok (.aaload, 1) := by decide +kernel
theorem dX4_giveBack_61 : decode cX4_giveBack 61 = .ok (.invokevirtual 29, 3) := by decide +kernel
theorem dX4_giveBack_64 : decode cX4_giveBack 64 = .ok (.return_, 1) := by decide +kernel
theorem dX5_init_0 : decode cX5_init 0 = .ok (.aload_n 0, 1) := by decide +kernel
theorem dX5_init_1 : decode cX5_init 1 = .ok (.invokespecial 3, 3) := by decide +kernel
theorem dX5_init_4 : decode cX5_init 4 = .ok (.aload_n 0, 1) := by decide +kernel
theorem dX5_init_5 : decode cX5_init 5 = .ok (.sipush 600, 3) := by decide +kernel
theorem dX5_init_8 : decode cX5_init 8 = .ok (.newarray .int, 2) := by decide +kernel
theorem dX5_init_10 : decode cX5_init 10 = .ok (.putfield 11, 3) := by decide +kernel
theorem dX5_init_13 : decode cX5_init 13 = .ok (.aload_n 0, 1) := by decide +kernel
theorem dX5_init_14 : decode cX5_init 14 = .ok (.iconst 4, 1) := by decide +kernel
theorem dX5_init_15 : decode cX5_init 15 = .ok (.anewarray 15, 3) := by decide +kernel
theorem dX5_init_18 : decode cX5_init 18 = .ok (.putfield 17, 3) := by decide +kernel
theorem dX5_init_21 : decode cX5_init 21 = .ok (.aload_n 0, 1) := by decide +kernel
theorem dX5_init_22 : decode cX5_init 22 = .ok (.iconst 4, 1) := by decide +kernel
theorem dX5_init_23 : decode cX5_init 23 = .ok (.newarray .int, 2) := by decide +kernel
theorem dX5_init_25 : decode cX5_init 25 = .ok (.putfield 21, 3) := by decide +kernel
theorem dX5_init_28 : decode cX5_init 28 = .ok (.aload_n 0, 1) := by decide +kernel
theorem dX5_init_29 : decode cX5_init 29 = .ok (.iconst 4, 1) := by decide +kernel
theorem dX5_init_30 : decode cX5_init 30 = .ok (.newarray .int, 2) := by decide +kernel
theorem dX5_init_32 : decode cX5_init 32 = .ok (.putfield 24, 3) := by decide +kernel
theorem dX5_init_35 : decode cX5_init 35 = .ok (.iconst 0, 1) := by decide +kernel
theorem dX5_init_36 : decode cX5_init 36 = .ok (.istore_n 1, 1) := by decide +kernel
theorem dX5_init_37 : decode cX5_init 37 = .ok (.iload_n 1, 1) := by decide +kernel
theorem dX5_init_38 : decode cX5_init 38 = .ok (.aload_n 0, 1) := by decide +kernel
theorem dX5_init_39 : decode cX5_init 39 = .ok (.getfield 17, 3) := by decide +kernel
theorem dX5_init_42 : decode cX5_init 42 = .ok (.arraylength, 1) := by decide +kernel
theorem dX5_init_43 : decode cX5_init 43 = .ok (.if_icmp .ge 22, 3) := by decide +kernel
theorem dX5_init_46 : decode cX5_init 46 = .ok (.aload_n 0, 1) := by decide +kernel
theorem dX5_init_47 : decode cX5_init 47 = .ok (.getfield 17, 3) := by decide +kernel
theorem dX5_init_50 : decode cX5_init 50 = .ok (.iload_n 1, 1) := by decide +kernel
theorem dX5_init_51 : decode cX5_init 51 = .ok (.new 15, 3) := by decide +kernel
theorem dX5_init_54 : decode cX5_init 54 = .ok (.dup, 1) := by decide +kernel
theorem dX5_init_55 : decode cX5_init 55 = .ok (.invokespecial 27, 3) := by decide +kernel
theorem dX5_init_58 : decode cX5_init 58 = .ok (.aastore, 1) := by decide +kernel
theorem dX5_init_59 : decode cX5_init 59 = .ok (.iinc 1 1, 3) := by decide +kernel
theorem dX5_init_62 : decode cX5_init 62 = .ok (.goto (-25), 3) := by decide +kernel
theorem dX5_init_65 : decode cX5_init 65 = .ok (.return_, 1) := by decide +kernel
theorem dX5_hasRoom_0 : decode cX5_hasRoom 0 = .ok (.aload_n 0, 1) := by decide +kernel
theorem dX5_hasRoom_1 : decode cX5_hasRoom 1 = .ok (.getfield 28, 3) := by decide +kernel
theorem dX5_hasRoom_4 : decode cX5_hasRoom 4 = .ok (.bipush 20, 2) := by decide +kernel
theorem dX5_hasRoom_6 : decode cX5_hasRoom 6 = .ok (.iadd, 1) := by decide +kernel
theorem dX5_hasRoom_7 : decode cX5_hasRoom 7 = .ok (.sipush 600, 3) := by decide +kernel
theorem dX5_hasRoom_10 : decode cX5_hasRoom 10 = .ok (.if_icmp .gt 7, 3) := by decide +kernel
theorem dX5_hasRoom_13 : decode cX5_hasRoom 13 = .ok (.iconst 1, 1) := by decide +kernel
theorem dX5_hasRoom_14 : decode cX5_hasRoom 14 = .ok (.goto 4, 3) := by decide +kernel
theorem dX5_hasRoom_17 : decode cX5_hasRoom 17 = .ok (.iconst 0, 1) := by decide +kernel
theorem dX5_hasRoom_18 : decode cX5_hasRoom 18 = .ok (.ireturn, 1) := by decide +kernel
theorem dX5_append_0 : decode cX5_append 0 = .ok (.aload_n 0, 1) := by decide +kernel
theorem dX5_append_1 : decode cX5_append 1 = .ok (.getfield 28, 3) := by decide +kernel
theorem dX5_append_4 : decode cX5_append 4 = .ok (.iconst 4, 1) := by decide +kernel
theorem dX5_append_5 : decode cX5_append 5 = .ok (.iadd, 1) := by decide +kernel
theorem dX5_append_6 : decode cX5_append 6 = .ok (.sipush 600, 3) := by decide +kernel
theorem dX5_append_9 : decode cX5_append 9 = .ok (.if_icmp .le 4, 3) := by decide +kernel
theorem dX5_append_12 : decode cX5_append 12 = .ok (.return_, 1) := by decide +kernel
theorem dX5_append_13 : decode cX5_append 13 = .ok (.iconst 0, 1) := by decide +kernel
theorem dX5_append_14 : decode cX5_append 14 = .ok (.istore_n 2, 1) := by decide +kernel
theorem dX5_append_15 : decode cX5_append 15 = .ok (.iload_n 2, 1) := by decide +kernel
theorem dX5_append_16 : decode cX5_append 16 = .ok (.iconst 4, 1) := by decide +kernel
theorem dX5_append_17 : decode cX5_append 17 = .ok (.if_icmp .ge 33, 3) := by decide +kernel
theorem dX5_append_20 : decode cX5_append 20 = .ok (.aload_n 0, 1) := by decide +kernel
theorem dX5_append_21 : decode cX5_append 21 = .ok (.getfield 11, 3) := by decide +kernel
theorem dX5_append_24 : decode cX5_append 24 = .ok (.aload_n 0, 1) := by decide +kernel
theorem dX5_append_25 : decode cX5_append 25 = .ok (.getfield 28, 3) := by decide +kernel
theorem dX5_append_28 : decode cX5_append 28 = .ok (.iload_n 2, 1) := by decide +kernel
theorem dX5_append_29 : decode cX5_append 29 = .ok (.iadd, 1) := by decide +kernel
theorem dX5_append_30 : decode cX5_append 30 = .ok (.iload_n 1, 1) := by decide +kernel
theorem dX5_append_31 : decode cX5_append 31 = .ok (.bipush 24, 2) := by decide +kernel
theorem dX5_append_33 : decode cX5_append 33 = .ok (.bipush 8, 2) := by decide +kernel
theorem dX5_append_35 : decode cX5_append 35 = .ok (.iload_n 2, 1) := by decide +kernel
theorem dX5_append_36 : decode cX5_append 36 = .ok (.imul, 1) := by decide +kernel
theorem dX5_append_37 : decode cX5_append 37 = .ok (.isub, 1) := by decide +kernel
theorem dX5_append_38 : decode cX5_append 38 = .ok (.iushr, 1) := by decide +kernel
theorem dX5_append_39 : decode cX5_append 39 = .ok (.sipush 255, 3) := by decide +kernel
theorem dX5_append_42 : decode cX5_append 42 = .ok (.iand, 1) := by decide +kernel
theorem dX5_append_43 : decode cX5_append 43 = .ok (.iastore, 1) := by decide +kernel
theorem dX5_append_44 : decode cX5_append 44 = .ok (.iinc 2 1, 3) := by decide +kernel
theorem dX5_append_47 : decode cX5_append 47 = .ok (.goto (-32), 3) := by decide +kernel
theorem dX5_append_50 : decode cX5_append 50 = .ok (.aload_n 0, 1) := by decide +kernel
theorem dX5_append_51 : decode cX5_append 51 = .ok (.dup, 1) := by decide +kernel
theorem dX5_append_52 : decode cX5_append 52 = .ok (.getfield 28, 3) := by decide +kernel
theorem dX5_append_55 : decode cX5_append 55 = .ok (.iconst 4, 1) := by decide +kernel
theorem dX5_append_56 : decode cX5_append 56 = .ok (.iadd, 1) := by decide +kernel
theorem dX5_append_57 : decode cX5_append 57 = .ok (.putfield 28, 3) := by decide +kernel
theorem dX5_append_60 : decode cX5_append 60 = .ok (.return_, 1) := by decide +kernel
theorem dX5_read_0 : decode cX5_read 0 = .ok (.aload_n 0, 1) := by decide +kernel
theorem dX5_read_1 : decode cX5_read 1 = .ok (.iconst 0, 1) := by decide +kernel
theorem dX5_read_2 : decode cX5_read 2 = .ok (.iload_n 1, 1) := by decide +kernel
theorem dX5_read_3 : decode cX5_read 3 = .ok (.aload_n 0, 1) := by decide +kernel
theorem dX5_read_4 : decode cX5_read 4 = .ok (.getfield 28, 3) := by decide +kernel
theorem dX5_read_7 : decode cX5_read 7 = .ok (.invokestatic 32, 3) := by decide +kernel
theorem dX5_read_10 : decode cX5_read 10 = .ok (.invokestatic 38, 3) := by decide +kernel
theorem dX5_read_13 : decode cX5_read 13 = .ok (.putfield 41, 3) := by decide +kernel
theorem dX5_read_16 : decode cX5_read 16 = .ok (.aload_n 0, 1) := by decide +kernel
theorem dX5_read_17 : decode cX5_read 17 = .ok (.iconst 0, 1) := by decide +kernel
theorem dX5_read_18 : decode cX5_read 18 = .ok (.putfield 44, 3) := by decide +kernel
theorem dX5_read_21 : decode cX5_read 21 = .ok (.aload_n 0, 1) := by decide +kernel
theorem dX5_read_22 : decode cX5_read 22 = .ok (.iconst 0, 1) := by decide +kernel
theorem dX5_read_23 : decode cX5_read 23 = .ok (.putfield 47, 3) := by decide +kernel
theorem dX5_read_26 : decode cX5_read 26 = .ok (.aload_n 0, 1) := by decide +kernel
theorem dX5_read_27 : decode cX5_read 27 = .ok (.iconst 0, 1) := by decide +kernel
theorem dX5_read_28 : decode cX5_read 28 = .ok (.putfield 50, 3) := by decide +kernel
theorem dX5_read_31 : decode cX5_read 31 = .ok (.iconst 0, 1) := by decide +kernel
theorem dX5_read_32 : decode cX5_read 32 = .ok (.istore_n 2, 1) := by decide +kernel
theorem dX5_read_33 : decode cX5_read 33 = .ok (.iload_n 2, 1) := by decide +kernel
theorem dX5_read_34 : decode cX5_read 34 = .ok (.iconst 4, 1) := by decide +kernel
theorem dX5_read_35 : decode cX5_read 35 = .ok (.if_icmp .gt 27, 3) := by decide +kernel
theorem dX5_read_38 : decode cX5_read 38 = .ok (.aload_n 0, 1) := by decide +kernel
theorem dX5_read_39 : decode cX5_read 39 = .ok (.invokevirtual 53, 3) := by decide +kernel
theorem dX5_read_42 : decode cX5_read 42 = .ok (.ifCond .ne 5, 3) := by decide +kernel
theorem dX5_read_45 : decode cX5_read 45 = .ok (.iconst 0, 1) := by decide +kernel
theorem dX5_read_46 : decode cX5_read 46 = .ok (.ireturn, 1) := by decide +kernel
theorem dX5_read_47 : decode cX5_read 47 = .ok (.aload_n 0, 1) := by decide +kernel
theorem dX5_read_48 : decode cX5_read 48 = .ok (.getfield 57, 3) := by decide +kernel
theorem dX5_read_51 : decode cX5_read 51 = .ok (.ifCond .ne 5, 3) := by decide +kernel
theorem dX5_read_54 : decode cX5_read 54 = .ok (.iconst 1, 1) := by decide +kernel
theorem dX5_read_55 : decode cX5_read 55 = .ok (.ireturn, 1) := by decide +kernel
theorem dX5_read_56 : decode cX5_read 56 = .ok (.iinc 2 1, 3) := by decide +kernel
theorem dX5_read_59 : decode cX5_read 59 = .ok (.goto (-26), 3) := by decide +kernel
theorem dX5_read_62 : decode cX5_read 62 = .ok (.aload_n 0, 1) := by decide +kernel
theorem dX5_read_63 : decode cX5_read 63 = .ok (.iconst 1, 1) := by decide +kernel
theorem dX5_read_64 : decode cX5_read 64 = .ok (.invokevirtual 60, 3) := by decide +kernel
theorem dX5_read_67 : decode cX5_read 67 = .ok (.ireturn, 1) := by decide +kernel
theorem dX5_handOut_0 : decode cX5_handOut 0 = .ok (.aload_n 0, 1) := by decide +kernel
theorem dX5_handOut_1 : decode cX5_handOut 1 = .ok (.aload_n 0, 1) := by decide +kernel
theorem dX5_handOut_2 : decode cX5_handOut 2 = .ok (.getfield 50, 3) := by decide +kernel
theorem dX5_handOut_5 : decode cX5_handOut 5 = .ok (.putfield 64, 3) := by decide +kernel
theorem dX5_handOut_8 : decode cX5_handOut 8 = .ok (.iconst 0, 1) := by decide +kernel
theorem dX5_handOut_9 : decode cX5_handOut 9 = .ok (.istore_n 2, 1) := by decide +kernel
theorem dX5_handOut_10 : decode cX5_handOut 10 = .ok (.iload_n 2, 1) := by decide +kernel
theorem dX5_handOut_11 : decode cX5_handOut 11 = .ok (.aload_n 0, 1) := by decide +kernel
theorem dX5_handOut_12 : decode cX5_handOut 12 = .ok (.getfield 50, 3) := by decide +kernel
theorem dX5_handOut_15 : decode cX5_handOut 15 = .ok (.if_icmp .ge 38, 3) := by decide +kernel
theorem dX5_handOut_18 : decode cX5_handOut 18 = .ok (.iload_n 2, 1) := by decide +kernel
theorem dX5_handOut_19 : decode cX5_handOut 19 = .ok (.iconst 4, 1) := by decide +kernel
theorem dX5_handOut_20 : decode cX5_handOut 20 = .ok (.if_icmp .ge 33, 3) := by decide +kernel
theorem dX5_handOut_23 : decode cX5_handOut 23 = .ok (.aload_n 1, 1) := by decide +kernel
theorem dX5_handOut_24 : decode cX5_handOut 24 = .ok (.iload_n 2, 1) := by decide +kernel
theorem dX5_handOut_25 : decode cX5_handOut 25 = .ok (.aaload, 1) := by decide +kernel
theorem dX5_handOut_26 : decode cX5_handOut 26 = .ok (.aload_n 0, 1) := by decide +kernel
theorem dX5_handOut_27 : decode cX5_handOut 27 = .ok (.getfield 17, 3) := by decide +kernel
theorem dX5_handOut_30 : decode cX5_handOut 30 = .ok (.iload_n 2, 1) := by decide +kernel
theorem dX5_handOut_31 : decode cX5_handOut 31 = .ok (.aaload, 1) := by decide +kernel
theorem dX5_handOut_32 : decode cX5_handOut 32 = .ok (.invokevirtual 67, 3) := by decide +kernel
theorem dX5_handOut_35 : decode cX5_handOut 35 = .ok (.aload_n 0, 1) := by decide +kernel
theorem dX5_handOut_36 : decode cX5_handOut 36 = .ok (.getfield 24, 3) := by decide +kernel
theorem dX5_handOut_39 : decode cX5_handOut 39 = .ok (.iload_n 2, 1) := by decide +kernel
theorem dX5_handOut_40 : decode cX5_handOut 40 = .ok (.aload_n 0, 1) := by decide +kernel
theorem dX5_handOut_41 : decode cX5_handOut 41 = .ok (.getfield 21, 3) := by decide +kernel
theorem dX5_handOut_44 : decode cX5_handOut 44 = .ok (.iload_n 2, 1) := by decide +kernel
theorem dX5_handOut_45 : decode cX5_handOut 45 = .ok (.iaload, 1) := by decide +kernel
theorem dX5_handOut_46 : decode cX5_handOut 46 = .ok (.iastore, 1) := by decide +kernel
theorem dX5_handOut_47 : decode cX5_handOut 47 = .ok (.iinc 2 1, 3) := by decide +kernel
theorem dX5_handOut_50 : decode cX5_handOut 50 = .ok (.goto (-40), 3) := by decide +kernel
theorem dX5_handOut_53 : decode cX5_handOut 53 = .ok (.return_, 1) := by decide +kernel
theorem dX5_letterOf_0 : decode cX5_letterOf 0 = .ok (.iload_n 1, 1) := by decide +kernel
theorem dX5_letterOf_1 : decode cX5_letterOf 1 = .ok (.ifCond .lt 26, 3) := by decide +kernel
theorem dX5_letterOf_4 : decode cX5_letterOf 4 = .ok (.iload_n 1, 1) := by decide +kernel
theorem dX5_letterOf_5 : decode cX5_letterOf 5 = .ok (.aload_n 0, 1) := by decide +kernel
theorem dX5_letterOf_6 : decode cX5_letterOf 6 = .ok (.getfield 64, 3) := by decide +kernel
theorem dX5_letterOf_9 : decode cX5_letterOf 9 = .ok (.if_icmp .ge 18, 3) := by decide +kernel
theorem dX5_letterOf_12 : decode cX5_letterOf 12 = .ok (.iload_n 1, 1) := by decide +kernel
theorem dX5_letterOf_13 : decode cX5_letterOf 13 = .ok (.iconst 4, 1) := by decide +kernel
theorem dX5_letterOf_14 : decode cX5_letterOf 14 = .ok (.if_icmp .ge 13, 3) := by decide +kernel
theorem dX5_letterOf_17 : decode cX5_letterOf 17 = .ok (.iload_n 2, 1) := by decide +kernel
theorem dX5_letterOf_18 : decode cX5_letterOf 18 = .ok (.ifCond .lt 9, 3) := by decide +kernel
theorem dX5_letterOf_21 : decode cX5_letterOf 21 = .ok (.iload_n 2, 1) := by decide +kernel
theorem dX5_letterOf_22 : decode cX5_letterOf 22 = .ok (.bipush 6, 2) := by decide +kernel
theorem dX5_letterOf_24 : decode cX5_letterOf 24 = .ok (.if_icmp .lt 5, 3) := by decide +kernel
theorem dX5_letterOf_27 : decode cX5_letterOf 27 = .ok (.iconst (-1), 1) := by decide +kernel
theorem dX5_letterOf_28 : decode cX5_letterOf 28 = .ok (.ireturn, 1) := by decide +kernel
theorem dX5_letterOf_29 : decode cX5_letterOf 29 = .ok (.aload_n 0, 1) := by decide +kernel
theorem dX5_letterOf_30 : decode cX5_letterOf 30 = .ok (.getfield 24, 3) := by decide +kernel
theorem dX5_letterOf_33 : decode cX5_letterOf 33 = .ok (.iload_n 1, 1) := by decide +kernel
theorem dX5_letterOf_34 : decode cX5_letterOf 34 = .ok (.iaload, 1) := by decide +kernel
theorem dX5_letterOf_35 : decode cX5_letterOf 35 = .ok (.iconst 5, 1) := by decide +kernel
theorem dX5_letterOf_36 : decode cX5_letterOf 36 = .ok (.iload_n 2, 1) := by decide +kernel
theorem dX5_letterOf_37 : decode cX5_letterOf 37 = .ok (.imul, 1) := by decide +kernel
theorem dX5_letterOf_38 : decode cX5_letterOf 38 = .ok (.ishr, 1) := by decide +kernel
theorem dX5_letterOf_39 : decode cX5_letterOf 39 = .ok (.bipush 31, 2) := by decide +kernel
theorem dX5_letterOf_41 : decode cX5_letterOf 41 = .ok (.iand, 1) := by decide +kernel
theorem dX5_letterOf_42 : decode cX5_letterOf 42 = .ok (.iconst 1, 1) := by decide +kernel
theorem dX5_letterOf_43 : decode cX5_letterOf 43 = .ok (.isub, 1) := by decide +kernel
theorem dX5_letterOf_44 : decode cX5_letterOf 44 = .ok (.ireturn, 1) := by decide +kernel
theorem dX5_fail_0 : decode cX5_fail 0 = .ok (.aload_n 0, 1) := by decide +kernel
theorem dX5_fail_1 : decode cX5_fail 1 = .ok (.iload_n 1, 1) := by decide +kernel
theorem dX5_fail_2 : decode cX5_fail 2 = .ok (.putfield 47, 3) := by decide +kernel
theorem dX5_fail_5 : decode cX5_fail 5 = .ok (.iconst 0, 1) := by decide +kernel
theorem dX5_fail_6 : decode cX5_fail 6 = .ok (.ireturn, 1) := by decide +kernel
theorem dX5_readLine_0 : decode cX5_readLine 0 = .ok (.aload_n 0, 1) := by decide +kernel
theorem dX5_readLine_1 : decode cX5_readLine 1 = .ok (.invokevirtual 71, 3) := by decide +kernel
theorem dX5_readLine_4 : decode cX5_readLine 4 = .ok (.aload_n 0, 1) := by decide +kernel
theorem dX5_readLine_5 : decode cX5_readLine 5 = .ok (.ldc 74, 2) := by decide +kernel
theorem dX5_readLine_7 : decode cX5_readLine 7 = .ok (.invokevirtual 76, 3) := by decide +kernel
theorem dX5_readLine_10 : decode cX5_readLine 10 = .ok (.ifCond .ne 9, 3) := by decide +kernel
theorem dX5_readLine_13 : decode cX5_readLine 13 = .ok (.aload_n 0, 1) := by decide +kernel
theorem dX5_readLine_14 : decode cX5_readLine 14 = .ok (.iconst 1, 1) := by decide +kernel
theorem dX5_readLine_15 : decode cX5_readLine 15 = .ok (.invokevirtual 60, 3) := by decide +kernel
theorem dX5_readLine_18 : decode cX5_readLine 18 = .ok (.ireturn, 1) := by decide +kernel
theorem dX5_readLine_19 : decode cX5_readLine 19 = .ok (.aload_n 0, 1) := by decide +kernel
theorem dX5_readLine_20 : decode cX5_readLine 20 = .ok (.getfield 50, 3) := by decide +kernel
theorem dX5_readLine_23 : decode cX5_readLine 23 = .ok (.iconst 4, 1) := by decide +kernel
theorem dX5_readLine_24 : decode cX5_readLine 24 = .ok (.if_icmp .lt 9, 3) := by decide +kernel
theorem dX5_readLine_27 : decode cX5_readLine 27 = .ok (.aload_n 0, 1) := by decide +kernel
theorem dX5_readLine_28 : decode cX5_readLine 28 = .ok (.iconst 4, 1) := by decide +kernel
theorem dX5_readLine_29 : decode cX5_readLine 29 = .ok (.invokevirtual 60, 3) := by decide +kernel
theorem dX5_readLine_32 : decode cX5_readLine 32 = .ok (.ireturn, 1) := by decide +kernel
theorem dX5_readLine_33 : decode cX5_readLine 33 = .ok (.aload_n 0, 1) := by decide +kernel
theorem dX5_readLine_34 : decode cX5_readLine 34 = .ok (.getfield 17, 3) := by decide +kernel
theorem dX5_readLine_37 : decode cX5_readLine 37 = .ok (.aload_n 0, 1) := by decide +kernel
theorem dX5_readLine_38 : decode cX5_readLine 38 = .ok (.getfield 50, 3) := by decide +kernel
theorem dX5_readLine_41 : decode cX5_readLine 41 = .ok (.aaload, 1) := by decide +kernel
theorem dX5_readLine_42 : decode cX5_readLine 42 = .ok (.astore_n 1, 1) := by decide +kernel
theorem dX5_readLine_43 : decode cX5_readLine 43 = .ok (.aload_n 1, 1) := by decide +kernel
theorem dX5_readLine_44 : decode cX5_readLine 44 = .ok (.invokevirtual 80, 3) := by decide +kernel
theorem dX5_readLine_47 : decode cX5_readLine 47 = .ok (.aload_n 0, 1) := by decide +kernel
theorem dX5_readLine_48 : decode cX5_readLine 48 = .ok (.invokevirtual 83, 3) := by decide +kernel
theorem dX5_readLine_51 : decode cX5_readLine 51 = .ok (.ifCond .eq 18, 3) := by decide +kernel
theorem dX5_readLine_54 : decode cX5_readLine 54 = .ok (.aload_n 0, 1) := by decide +kernel
theorem dX5_readLine_55 : decode cX5_readLine 55 = .ok (.invokevirtual 86, 3) := by decide +kernel
theorem dX5_readLine_58 : decode cX5_readLine 58 = .ok (.ifCond .eq 11, 3) := by decide +kernel
theorem dX5_readLine_61 : decode cX5_readLine 61 = .ok (.aload_n 0, 1) := by decide +kernel
theorem dX5_readLine_62 : decode cX5_readLine 62 = .ok (.aload_n 1, 1) := by decide +kernel
theorem dX5_readLine_63 : decode cX5_readLine 63 = .ok (.invokevirtual 89, 3) := by decide +kernel
theorem dX5_readLine_66 : decode cX5_readLine 66 = .ok (.ifCond .ne 5, 3) := by decide +kernel
theorem dX5_readLine_69 : decode cX5_readLine 69 = .ok (.iconst 0, 1) := by decide +kernel
theorem dX5_readLine_70 : decode cX5_readLine 70 = .ok (.ireturn, 1) := by decide +kernel
theorem dX5_readLine_71 : decode cX5_readLine 71 = .ok (.aload_n 0, 1) := by decide +kernel
theorem dX5_readLine_72 : decode cX5_readLine 72 = .ok (.ldc 93, 2) := by decide +kernel
theorem dX5_readLine_74 : decode cX5_readLine 74 = .ok (.invokevirtual 76, 3) := by decide +kernel
theorem dX5_readLine_77 : decode cX5_readLine 77 = .ok (.ifCond .eq 13, 3) := by decide +kernel
theorem dX5_readLine_80 : decode cX5_readLine 80 = .ok (.aload_n 0, 1) := by decide +kernel
theorem dX5_readLine_81 : decode cX5_readLine 81 = .ok (.aload_n 1, 1) := by decide +kernel
theorem dX5_readLine_82 : decode cX5_readLine 82 = .ok (.invokevirtual 95, 3) := by decide +kernel
theorem dX5_readLine_85 : decode cX5_readLine 85 = .ok (.ifCond .ne 5, 3) := by decide +kernel
theorem dX5_readLine_88 : decode cX5_readLine 88 = .ok (.iconst 0, 1) := by decide +kernel
theorem dX5_readLine_89 : decode cX5_readLine 89 = .ok (.ireturn, 1) := by decide +kernel
theorem dX5_readLine_90 : decode cX5_readLine 90 = .ok (.aload_n 0, 1) := by decide +kernel
theorem dX5_readLine_91 : decode cX5_readLine 91 = .ok (.bipush 58, 2) := by decide +kernel
theorem dX5_readLine_93 : decode cX5_readLine 93 = .ok (.invokevirtual 98, 3) := by decide +kernel
theorem dX5_readLine_96 : decode cX5_readLine 96 = .ok (.ifCond .ne 9, 3) := by decide +kernel
theorem dX5_readLine_99 : decode cX5_readLine 99 = .ok (.aload_n 0, 1) := by decide +kernel
theorem dX5_readLine_100 : decode cX5_readLine 100 = .ok (.iconst 1, 1) := by decide +kernel
theorem dX5_readLine_101 : decode cX5_readLine 101 = .ok (.invokevirtual 60, 3) := by decide +kernel
theorem dX5_readLine_104 : decode cX5_readLine 104 = .ok (.ireturn, 1) := by decide +kernel
theorem dX5_readLine_105 : decode cX5_readLine 105 = .ok (.aload_n 0, 1) := by decide +kernel
theorem dX5_readLine_106 : decode cX5_readLine 106 = .ok (.dup, 1) := by decide +kernel
theorem dX5_readLine_107 : decode cX5_readLine 107 = .ok (.getfield 50, 3) := by decide +kernel
theorem dX5_readLine_110 : decode cX5_readLine 110 = .ok (.iconst 1, 1) := by decide +kernel
theorem dX5_readLine_111 : decode cX5_readLine 111 = .ok (.iadd, 1) := by decide +kernel
theorem dX5_readLine_112 : decode cX5_readLine 112 = .ok (.putfield 50, 3) := by decide +kernel
theorem dX5_readLine_115 : decode cX5_readLine 115 = .ok (.aload_n 0, 1) := by decide +kernel
theorem dX5_readLine_116 : decode cX5_readLine 116 = .ok (.aload_n 1, 1) := by decide +kernel
theorem dX5_readLine_117 : decode cX5_readLine 117 = .ok (.invokevirtual 101, 3) := by decide +kernel
theorem dX5_readLine_120 : decode cX5_readLine 120 = .ok (.ireturn, 1) := by decide +kernel
theorem dX5_readName_0 : decode cX5_readName 0 = .ok (.aload_n 0, 1) := by decide +kernel
theorem dX5_readName_1 : decode cX5_readName 1 = .ok (.invokevirtual 71, 3) := by decide +kernel
theorem dX5_readName_4 : decode cX5_readName 4 = .ok (.aload_n 0, 1) := by decide +kernel
theorem dX5_readName_5 : decode cX5_readName 5 = .ok (.getfield 57, 3) := by decide +kernel
theorem dX5_readName_8 : decode cX5_readName 8 = .ok (.iconst 1, 1) := by decide +kernel
theorem dX5_readName_9 : decode cX5_readName 9 = .ok (.if_icmp .ne 30, 3) := by decide +kernel
theorem dX5_readName_12 : decode cX5_readName 12 = .ok (.aload_n 0, 1) := by decide +kernel
theorem dX5_readName_13 : decode cX5_readName 13 = .ok (.ldc 74, 2) := by decide +kernel
theorem dX5_readName_15 : decode cX5_readName 15 = .ok (.invokevirtual 76, 3) := by decide +kernel
theorem dX5_readName_18 : decode cX5_readName 18 = .ok (.ifCond .ne 21, 3) := by decide +kernel
theorem dX5_readName_21 : decode cX5_readName 21 = .ok (.aload_n 0, 1) := by decide +kernel
theorem dX5_readName_22 : decode cX5_readName 22 = .ok (.ldc 104, 2) := by decide +kernel
theorem dX5_readName_24 : decode cX5_readName 24 = .ok (.invokevirtual 76, 3) := by decide +kernel
theorem dX5_readName_27 : decode cX5_readName 27 = .ok (.ifCond .ne 12, 3) := by decide +kernel
theorem dX5_readName_30 : decode cX5_readName 30 = .ok (.aload_n 0, 1) := by decide +kernel
theorem dX5_readName_31 : decode cX5_readName 31 = .ok (.ldc 93, 2) := by decide +kernel
theorem dX5_readName_33 : decode cX5_readName 33 = .ok (.invokevirtual 76, 3) := by decide +kernel
theorem dX5_readName_36 : decode cX5_readName 36 = .ok (.ifCond .eq 9, 3) := by decide +kernel
theorem dX5_readName_39 : decode cX5_readName 39 = .ok (.aload_n 0, 1) := by decide +kernel
theorem dX5_readName_40 : decode cX5_readName 40 = .ok (.iconst 1, 1) := by decide +kernel
theorem dX5_readName_41 : decode cX5_readName 41 = .ok (.invokevirtual 60, 3) := by decide +kernel
theorem dX5_readName_44 : decode cX5_readName 44 = .ok (.ireturn, 1) := by decide +kernel
theorem dX5_readName_45 : decode cX5_readName 45 = .ok (.iconst 0, 1) := by decide +kernel
theorem dX5_readName_46 : decode cX5_readName 46 = .ok (.istore_n 1, 1) := by decide +kernel
theorem dX5_readName_47 : decode cX5_readName 47 = .ok (.iconst 0, 1) := by decide +kernel
theorem dX5_readName_48 : decode cX5_readName 48 = .ok (.istore_n 2, 1) := by decide +kernel
theorem dX5_readName_49 : decode cX5_readName 49 = .ok (.iload_n 2, 1) := by decide +kernel
theorem dX5_readName_50 : decode cX5_readName 50 = .ok (.aload_n 0, 1) := by decide +kernel
theorem dX5_readName_51 : decode cX5_readName 51 = .ok (.getfield 44, 3) := by decide +kernel
theorem dX5_readName_54 : decode cX5_readName 54 = .ok (.aload_n 0, 1) := by decide +kernel
theorem dX5_readName_55 : decode cX5_readName 55 = .ok (.getfield 106, 3) := by decide +kernel
theorem dX5_readName_58 : decode cX5_readName 58 = .ok (.isub, 1) := by decide +kernel
theorem dX5_readName_59 : decode cX5_readName 59 = .ok (.if_icmp .ge 32, 3) := by decide +kernel
theorem dX5_readName_62 : decode cX5_readName 62 = .ok (.iload_n 1, 1) := by decide +kernel
theorem dX5_readName_63 : decode cX5_readName 63 = .ok (.aload_n 0, 1) := by decide +kernel
theorem dX5_readName_64 : decode cX5_readName 64 = .ok (.getfield 11, 3) := by decide +kernel
theorem dX5_readName_67 : decode cX5_readName 67 = .ok (.aload_n 0, 1) := by decide +kernel
theorem dX5_readName_68 : decode cX5_readName 68 = .ok (.getfield 106, 3) := by decide +kernel
theorem dX5_readName_71 : decode cX5_readName 71 = .ok (.iload_n 2, 1) := by decide +kernel
theorem dX5_readName_72 : decode cX5_readName 72 = .ok (.iadd, 1) := by decide +kernel
theorem dX5_readName_73 : decode cX5_readName 73 = .ok (.iaload, 1) := by decide +kernel
theorem dX5_readName_74 : decode cX5_readName 74 = .ok (.bipush 97, 2) := by decide +kernel
theorem dX5_readName_76 : decode cX5_readName 76 = .ok (.isub, 1) := by decide +kernel
theorem dX5_readName_77 : decode cX5_readName 77 = .ok (.iconst 1, 1) := by decide +kernel
theorem dX5_readName_78 : decode cX5_readName 78 = .ok (.iadd, 1) := by decide +kernel
theorem dX5_readName_79 : decode cX5_readName 79 = .ok (.iconst 5, 1) := by decide +kernel
theorem dX5_readName_80 : decode cX5_readName 80 = .ok (.iload_n 2, 1) := by decide +kernel
theorem dX5_readName_81 : decode cX5_readName 81 = .ok (.imul, 1) := by decide +kernel
theorem dX5_readName_82 : decode cX5_readName 82 = .ok (.ishl, 1) := by decide +kernel
theorem dX5_readName_83 : decode cX5_readName 83 = .ok (.ior, 1) := by decide +kernel
theorem dX5_readName_84 : decode cX5_readName 84 = .ok (.istore_n 1, 1) := by decide +kernel
theorem dX5_readName_85 : decode cX5_readName 85 = .ok (.iinc 2 1, 3) := by decide +kernel
theorem dX5_readName_88 : decode cX5_readName 88 = .ok (.goto (-39), 3) := by decide +kernel
theorem dX5_readName_91 : decode cX5_readName 91 = .ok (.iconst 0, 1) := by decide +kernel
theorem dX5_readName_92 : decode cX5_readName 92 = .ok (.istore_n 2, 1) := by decide +kernel
theorem dX5_readName_93 : decode cX5_readName 93 = .ok (.iload_n 2, 1) := by decide +kernel
theorem dX5_readName_94 : decode cX5_readName 94 = .ok (.aload_n 0, 1) := by decide +kernel
theorem dX5_readName_95 : decode cX5_readName 95 = .ok (.getfield 50, 3) := by decide +kernel
theorem dX5_readName_98 : decode cX5_readName 98 = .ok (.if_icmp .ge 25, 3) := by decide +kernel
theorem dX5_readName_101 : decode cX5_readName 101 = .ok (.aload_n 0, 1) := by decide +kernel
theorem dX5_readName_102 : decode cX5_readName 102 = .ok (.getfield 21, 3) := by decide +kernel
theorem dX5_readName_105 : decode cX5_readName 105 = .ok (.iload_n 2, 1) := by decide +kernel
theorem dX5_readName_106 : decode cX5_readName 106 = .ok (.iaload, 1) := by decide +kernel
theorem dX5_readName_107 : decode cX5_readName 107 = .ok (.iload_n 1, 1) := by decide +kernel
theorem dX5_readName_108 : decode cX5_readName 108 = .ok (.if_icmp .ne 9, 3) := by decide +kernel
theorem dX5_readName_111 : decode cX5_readName 111 = .ok (.aload_n 0, 1) := by decide +kernel
theorem dX5_readName_112 : decode cX5_readName 112 = .ok (.iconst 3, 1) := by decide +kernel
theorem dX5_readName_113 : decode cX5_readName 113 = .ok (.invokevirtual 60, 3) := by decide +kernel
theorem dX5_readName_116 : decode cX5_readName 116 = .ok (.ireturn, 1) := by decide +kernel
theorem dX5_readName_117 : decode cX5_readName 117 = .ok (.iinc 2 1, 3) := by decide +kernel
theorem dX5_readName_120 : decode cX5_readName 120 = .ok (.goto (-27), 3) := by decide +kernel
theorem dX5_readName_123 : decode cX5_readName 123 = .ok (.aload_n 0, 1) := by decide +kernel
theorem dX5_readName_124 : decode cX5_readName 124 = .ok (.getfield 21, 3) := by decide +kernel
theorem dX5_readName_127 : decode cX5_readName 127 = .ok (.aload_n 0, 1) := by decide +kernel
theorem dX5_readName_128 : decode cX5_readName 128 = .ok (.getfield 50, 3) := by decide +kernel
theorem dX5_readName_131 : decode cX5_readName 131 = .ok (.iload_n 1, 1) := by decide +kernel
theorem dX5_readName_132 : decode cX5_readName 132 = .ok (.iastore, 1) := by decide +kernel
theorem dX5_readName_133 : decode cX5_readName 133 = .ok (.iconst 1, 1) := by decide +kernel
theorem dX5_readName_134 : decode cX5_readName 134 = .ok (.ireturn, 1) := by decide +kernel
theorem dX5_readOn_0 : decode cX5_readOn 0 = .ok (.aload_n 0, 1) := by decide +kernel
theorem dX5_readOn_1 : decode cX5_readOn 1 = .ok (.invokevirtual 71, 3) := by decide +kernel
theorem dX5_readOn_4 : decode cX5_readOn 4 = .ok (.aload_n 0, 1) := by decide +kernel
theorem dX5_readOn_5 : decode cX5_readOn 5 = .ok (.ldc 104, 2) := by decide +kernel
theorem dX5_readOn_7 : decode cX5_readOn 7 = .ok (.invokevirtual 76, 3) := by decide +kernel
theorem dX5_readOn_10 : decode cX5_readOn 10 = .ok (.ifCond .ne 11, 3) := by decide +kernel
theorem dX5_readOn_13 : decode cX5_readOn 13 = .ok (.aload_n 0, 1) := by decide +kernel
theorem dX5_readOn_14 : decode cX5_readOn 14 = .ok (.iconst 1, 1) := by decide +kernel
theorem dX5_readOn_15 : decode cX5_readOn 15 = .ok (.invokevirtual 60, 3) := by decide +kernel
theorem dX5_readOn_18 : decode cX5_readOn 18 = .ok (.ifCond .eq 7, 3) := by decide +kernel
theorem dX5_readOn_21 : decode cX5_readOn 21 = .ok (.iconst 1, 1) := by decide +kernel
theorem dX5_readOn_22 : decode cX5_readOn 22 = .ok (.goto 4, 3) := by decide +kernel
theorem dX5_readOn_25 : decode cX5_readOn 25 = .ok (.iconst 0, 1) := by decide +kernel
theorem dX5_readOn_26 : decode cX5_readOn 26 = .ok (.ireturn, 1) := by decide +kernel
theorem dX5_readSizes_0 : decode cX5_readSizes 0 = .ok (.aload_n 0, 1) := by decide +kernel
theorem dX5_readSizes_1 : decode cX5_readSizes 1 = .ok (.invokevirtual 71, 3) := by decide +kernel
theorem dX5_readSizes_4 : decode cX5_readSizes 4 = .ok (.aload_n 0, 1) := by decide +kernel
theorem dX5_readSizes_5 : decode cX5_readSizes 5 = .ok (.getfield 57, 3) := by decide +kernel
theorem dX5_readSizes_8 : decode cX5_readSizes 8 = .ok (.iconst 2, 1) := by decide +kernel
theorem dX5_readSizes_9 : decode cX5_readSizes 9 = .ok (.if_icmp .eq 9, 3) := by decide +kernel
theorem dX5_readSizes_12 : decode cX5_readSizes 12 = .ok (.aload_n 0, 1) := by decide +kernel
theorem dX5_readSizes_13 : decode cX5_readSizes 13 = .ok (.iconst 1, 1) := by decide +kernel
theorem dX5_readSizes_14 : decode cX5_readSizes 14 = .ok (.invokevirtual 60, 3) := by decide +kernel
theorem dX5_readSizes_17 : decode cX5_readSizes 17 = .ok (.ireturn, 1) := by decide +kernel
theorem dX5_readSizes_18 : decode cX5_readSizes 18 = .ok (.iconst 0, 1) := by decide +kernel
theorem dX5_readSizes_19 : decode cX5_readSizes 19 = .ok (.istore_n 2, 1) := by decide +kernel
theorem dX5_readSizes_20 : decode cX5_readSizes 20 = .ok (.iload_n 2, 1) := by decide +kernel
theorem dX5_readSizes_21 : decode cX5_readSizes 21 = .ok (.bipush 8, 2) := by decide +kernel
theorem dX5_readSizes_23 : decode cX5_readSizes 23 = .ok (.if_icmp .gt 54, 3) := by decide +kernel
theorem dX5_readSizes_26 : decode cX5_readSizes 26 = .ok (.aload_n 0, 1) := by decide +kernel
theorem dX5_readSizes_27 : decode cX5_readSizes 27 = .ok (.getfield 57, 3) := by decide +kernel
theorem dX5_readSizes_30 : decode cX5_readSizes 30 = .ok (.iconst 2, 1) := by decide +kernel
theorem dX5_readSizes_31 : decode cX5_readSizes 31 = .ok (.if_icmp .ne 46, 3) := by decide +kernel
theorem dX5_readSizes_34 : decode cX5_readSizes 34 = .ok (.aload_n 0, 1) := by decide +kernel
theorem dX5_readSizes_35 : decode cX5_readSizes 35 = .ok (.invokevirtual 109, 3) := by decide +kernel
theorem dX5_readSizes_38 : decode cX5_readSizes 38 = .ok (.istore_n 3, 1) := by decide +kernel
theorem dX5_readSizes_39 : decode cX5_readSizes 39 = .ok (.iload_n 3, 1) := by decide +kernel
theorem dX5_readSizes_40 : decode cX5_readSizes 40 = .ok (.invokestatic 113, 3) := by decide +kernel
theorem dX5_readSizes_43 : decode cX5_readSizes 43 = .ok (.ifCond .ne 9, 3) := by decide +kernel
theorem dX5_readSizes_46 : decode cX5_readSizes 46 = .ok (.aload_n 0, 1) := by decide +kernel
theorem dX5_readSizes_47 : decode cX5_readSizes 47 = .ok (.iconst 2, 1) := by decide +kernel
theorem dX5_readSizes_48 : decode cX5_readSizes 48 = .ok (.invokevirtual 60, 3) := by decide +kernel
theorem dX5_readSizes_51 : decode cX5_readSizes 51 = .ok (.ireturn, 1) := by decide +kernel
theorem dX5_readSizes_52 : decode cX5_readSizes 52 = .ok (.aload_n 1, 1) := by decide +kernel
theorem dX5_readSizes_53 : decode cX5_readSizes 53 = .ok (.iload_n 3, 1) := by decide +kernel
theorem dX5_readSizes_54 : decode cX5_readSizes 54 = .ok (.iconst 1, 1) := by decide +kernel
theorem dX5_readSizes_55 : decode cX5_readSizes 55 = .ok (.invokevirtual 116, 3) := by decide +kernel
theorem dX5_readSizes_58 : decode cX5_readSizes 58 = .ok (.ifCond .ne 9, 3) := by decide +kernel
theorem dX5_readSizes_61 : decode cX5_readSizes 61 = .ok (.aload_n 0, 1) := by decide +kernel
theorem dX5_readSizes_62 : decode cX5_readSizes 62 = .ok (.iconst 4, 1) := by decide +kernel
theorem dX5_readSizes_63 : decode cX5_readSizes 63 = .ok (.invokevirtual 60, 3) := by decide +kernel
theorem dX5_readSizes_66 : decode cX5_readSizes 66 = .ok (.ireturn, 1) := by decide +kernel
theorem dX5_readSizes_67 : decode cX5_readSizes 67 = .ok (.aload_n 0, 1) := by decide +kernel
theorem dX5_readSizes_68 : decode cX5_readSizes 68 = .ok (.invokevirtual 71, 3) := by decide +kernel
theorem dX5_readSizes_71 : decode cX5_readSizes 71 = .ok (.iinc 2 1, 3) := by decide +kernel
theorem dX5_readSizes_74 : decode cX5_readSizes 74 = .ok (.goto (-54), 3) := by decide +kernel
theorem dX5_readSizes_77 : decode cX5_readSizes 77 = .ok (.iconst 1, 1) := by decide +kernel
theorem dX5_readSizes_78 : decode cX5_readSizes 78 = .ok (.ireturn, 1) := by decide +kernel
theorem dX5_readWeights_0 : decode cX5_readWeights 0 = .ok (.iconst 0, 1) := by decide +kernel
theorem dX5_readWeights_1 : decode cX5_readWeights 1 = .ok (.istore_n 2, 1) := by decide +kernel
theorem dX5_readWeights_2 : decode cX5_readWeights 2 = .ok (.iload_n 2, 1) := by decide +kernel
theorem dX5_readWeights_3 : decode cX5_readWeights 3 = .ok (.aload_n 1, 1) := by decide +kernel
theorem dX5_readWeights_4 : decode cX5_readWeights 4 = .ok (.getfield 120, 3) := by decide +kernel
theorem dX5_readWeights_7 : decode cX5_readWeights 7 = .ok (.if_icmp .ge 52, 3) := by decide +kernel
theorem dX5_readWeights_10 : decode cX5_readWeights 10 = .ok (.aload_n 0, 1) := by decide +kernel
theorem dX5_readWeights_11 : decode cX5_readWeights 11 = .ok (.invokevirtual 71, 3) := by decide +kernel
theorem dX5_readWeights_14 : decode cX5_readWeights 14 = .ok (.aload_n 0, 1) := by decide +kernel
theorem dX5_readWeights_15 : decode cX5_readWeights 15 = .ok (.getfield 57, 3) := by decide +kernel
theorem dX5_readWeights_18 : decode cX5_readWeights 18 = .ok (.iconst 2, 1) := by decide +kernel
theorem dX5_readWeights_19 : decode cX5_readWeights 19 = .ok (.if_icmp .eq 9, 3) := by decide +kernel
theorem dX5_readWeights_22 : decode cX5_readWeights 22 = .ok (.aload_n 0, 1) := by decide +kernel
theorem dX5_readWeights_23 : decode cX5_readWeights 23 = .ok (.iconst 1, 1) := by decide +kernel
theorem dX5_readWeights_24 : decode cX5_readWeights 24 = .ok (.invokevirtual 60, 3) := by decide +kernel
theorem dX5_readWeights_27 : decode cX5_readWeights 27 = .ok (.ireturn, 1) := by decide +kernel
theorem dX5_readWeights_28 : decode cX5_readWeights 28 = .ok (.aload_n 0, 1) := by decide +kernel
theorem dX5_readWeights_29 : decode cX5_readWeights 29 = .ok (.invokevirtual 109, 3) := by decide +kernel
theorem dX5_readWeights_32 : decode cX5_readWeights 32 = .ok (.istore_n 3, 1) := by decide +kernel
theorem dX5_readWeights_33 : decode cX5_readWeights 33 = .ok (.iload_n 3, 1) := by decide +kernel
theorem dX5_readWeights_34 : decode cX5_readWeights 34 = .ok (.invokestatic 123, 3) := by decide +kernel
theorem dX5_readWeights_37 : decode cX5_readWeights 37 = .ok (.ifCond .ne 9, 3) := by decide +kernel
theorem dX5_readWeights_40 : decode cX5_readWeights 40 = .ok (.aload_n 0, 1) := by decide +kernel
theorem dX5_readWeights_41 : decode cX5_readWeights 41 = .ok (.iconst 2, 1) := by decide +kernel
theorem dX5_readWeights_42 : decode cX5_readWeights 42 = .ok (.invokevirtual 60, 3) := by decide +kernel
theorem dX5_readWeights_45 : decode cX5_readWeights 45 = .ok (.ireturn, 1) := by decide +kernel
theorem dX5_readWeights_46 : decode cX5_readWeights 46 = .ok (.aload_n 1, 1) := by decide +kernel
theorem dX5_readWeights_47 : decode cX5_readWeights 47 = .ok (.getfield 126, 3) := by decide +kernel
theorem dX5_readWeights_50 : decode cX5_readWeights 50 = .ok (.iload_n 2, 1) := by decide +kernel
theorem dX5_readWeights_51 : decode cX5_readWeights 51 = .ok (.iload_n 3, 1) := by decide +kernel
theorem dX5_readWeights_52 : decode cX5_readWeights 52 = .ok (.iastore, 1) := by decide +kernel
theorem dX5_readWeights_53 : decode cX5_readWeights 53 = .ok (.iinc 2 1, 3) := by decide +kernel
theorem dX5_readWeights_56 : decode cX5_readWeights 56 = .ok (.goto (-54), 3) := by decide +kernel
theorem dX5_readWeights_59 : decode cX5_readWeights 59 = .ok (.aload_n 0, 1) := by decide +kernel
theorem dX5_readWeights_60 : decode cX5_readWeights 60 = .ok (.invokevirtual 71, 3) := by decide +kernel
theorem dX5_readWeights_63 : decode cX5_readWeights 63 = .ok (.iconst 1, 1) := by decide +kernel
theorem dX5_readWeights_64 : decode cX5_readWeights 64 = .ok (.ireturn, 1) := by decide +kernel
theorem dX5_readCodewords_0 : decode cX5_readCodewords 0 = .ok (.iconst 0, 1) := by decide +kernel
theorem dX5_readCodewords_1 : decode cX5_readCodewords 1 = .ok (.istore_n 2, 1) := by decide +kernel
theorem dX5_readCodewords_2 : decode cX5_readCodewords 2 = .ok (.iload_n 2, 1) := by decide +kernel
theorem dX5_readCodewords_3 : decode cX5_readCodewords 3 = .ok (.sipush 600, 3) := by decide +kernel
theorem dX5_readCodewords_6 : decode cX5_readCodewords 6 = .ok (.if_icmp .ge 100, 3) := by decide +kernel
theorem dX5_readCodewords_9 : decode cX5_readCodewords 9 = .ok (.aload_n 0, 1) := by decide +kernel
theorem dX5_readCodewords_10 : decode cX5_readCodewords 10 = .ok (.invokevirtual 71, 3) := by decide +kernel
theorem dX5_readCodewords_13 : decode cX5_readCodewords 13 = .ok (.aload_n 0, 1) := by decide +kernel
theorem dX5_readCodewords_14 : decode cX5_readCodewords 14 = .ok (.getfield 57, 3) := by decide +kernel
theorem dX5_readCodewords_17 : decode cX5_readCodewords 17 = .ok (.iconst 2, 1) := by decide +kernel
theorem dX5_readCodewords_18 : decode cX5_readCodewords 18 = .ok (.if_icmp .eq 9, 3) := by decide +kernel
theorem dX5_readCodewords_21 : decode cX5_readCodewords 21 = .ok (.aload_n 0, 1) := by decide +kernel
theorem dX5_readCodewords_22 : decode cX5_readCodewords 22 = .ok (.iconst 1, 1) := by decide +kernel
theorem dX5_readCodewords_23 : decode cX5_readCodewords 23 = .ok (.invokevirtual 60, 3) := by decide +kernel
theorem dX5_readCodewords_26 : decode cX5_readCodewords 26 = .ok (.ireturn, 1) := by decide +kernel
theorem dX5_readCodewords_27 : decode cX5_readCodewords 27 = .ok (.aload_n 0, 1) := by decide +kernel
theorem dX5_readCodewords_28 : decode cX5_readCodewords 28 = .ok (.aload_n 1, 1) := by decide +kernel
theorem dX5_readCodewords_29 : decode cX5_readCodewords 29 = .ok (.invokevirtual 129, 3) := by decide +kernel
theorem dX5_readCodewords_32 : decode cX5_readCodewords 32 = .ok (.istore_n 3, 1) := by decide +kernel
theorem dX5_readCodewords_33 : decode cX5_readCodewords 33 = .ok (.iload_n 3, 1) := by decide +kernel
theorem dX5_readCodewords_34 : decode cX5_readCodewords 34 = .ok (.iconst (-1), 1) := by decide +kernel
theorem dX5_readCodewords_35 : decode cX5_readCodewords 35 = .ok (.if_icmp .ne 9, 3) := by decide +kernel
theorem dX5_readCodewords_38 : decode cX5_readCodewords 38 = .ok (.aload_n 0, 1) := by decide +kernel
theorem dX5_readCodewords_39 : decode cX5_readCodewords 39 = .ok (.iconst 2, 1) := by decide +kernel
theorem dX5_readCodewords_40 : decode cX5_readCodewords 40 = .ok (.invokevirtual 60, 3) := by decide +kernel
theorem dX5_readCodewords_43 : decode cX5_readCodewords 43 = .ok (.ireturn, 1) := by decide +kernel
theorem dX5_readCodewords_44 : decode cX5_readCodewords 44 = .ok (.aload_n 1, 1) := by decide +kernel
theorem dX5_readCodewords_45 : decode cX5_readCodewords 45 = .ok (.iload_n 3, 1) := by decide +kernel
theorem dX5_readCodewords_46 : decode cX5_readCodewords 46 = .ok (.invokevirtual 133, 3) := by decide +kernel
theorem dX5_readCodewords_49 : decode cX5_readCodewords 49 = .ok (.ifCond .eq 9, 3) := by decide +kernel
theorem dX5_readCodewords_52 : decode cX5_readCodewords 52 = .ok (.aload_n 0, 1) := by decide +kernel
theorem dX5_readCodewords_53 : decode cX5_readCodewords 53 = .ok (.iconst 3, 1) := by decide +kernel
theorem dX5_readCodewords_54 : decode cX5_readCodewords 54 = .ok (.invokevirtual 60, 3) := by decide +kernel
theorem dX5_readCodewords_57 : decode cX5_readCodewords 57 = .ok (.ireturn, 1) := by decide +kernel
theorem dX5_readCodewords_58 : decode cX5_readCodewords 58 = .ok (.aload_n 1, 1) := by decide +kernel
theorem dX5_readCodewords_59 : decode cX5_readCodewords 59 = .ok (.iload_n 3, 1) := by decide +kernel
theorem dX5_readCodewords_60 : decode cX5_readCodewords 60 = .ok (.invokevirtual 136, 3) := by decide +kernel
theorem dX5_readCodewords_63 : decode cX5_readCodewords 63 = .ok (.aload_n 0, 1) := by decide +kernel
theorem dX5_readCodewords_64 : decode cX5_readCodewords 64 = .ok (.invokevirtual 71, 3) := by decide +kernel
theorem dX5_readCodewords_67 : decode cX5_readCodewords 67 = .ok (.aload_n 0, 1) := by decide +kernel
theorem dX5_readCodewords_68 : decode cX5_readCodewords 68 = .ok (.getfield 57, 3) := by decide +kernel
theorem dX5_readCodewords_71 : decode cX5_readCodewords 71 = .ok (.ifCond .eq 12, 3) := by decide +kernel
theorem dX5_readCodewords_74 : decode cX5_readCodewords 74 = .ok (.aload_n 0, 1) := by decide +kernel
theorem dX5_readCodewords_75 : decode cX5_readCodewords 75 = .ok (.bipush 59, 2) := by decide +kernel
theorem dX5_readCodewords_77 : decode cX5_readCodewords 77 = .ok (.invokevirtual 98, 3) := by decide +kernel
theorem dX5_readCodewords_80 : decode cX5_readCodewords 80 = .ok (.ifCond .eq 5, 3) := by decide +kernel
theorem dX5_readCodewords_83 : decode cX5_readCodewords 83 = .ok (.iconst 1, 1) := by decide +kernel
theorem dX5_readCodewords_84 : decode cX5_readCodewords 84 = .ok (.ireturn, 1) := by decide +kernel
theorem dX5_readCodewords_85 : decode cX5_readCodewords 85 = .ok (.aload_n 0, 1) := by decide +kernel
theorem dX5_readCodewords_86 : decode cX5_readCodewords 86 = .ok (.bipush 44, 2) := by decide +kernel
theorem dX5_readCodewords_88 : decode cX5_readCodewords 88 = .ok (.invokevirtual 98, 3) := by decide +kernel
theorem dX5_readCodewords_91 : decode cX5_readCodewords 91 = .ok (.ifCond .ne 9, 3) := by decide +kernel
theorem dX5_readCodewords_94 : decode cX5_readCodewords 94 = .ok (.aload_n 0, 1) := by decide +kernel
theorem dX5_readCodewords_95 : decode cX5_readCodewords 95 = .ok (.iconst 1, 1) := by decide +kernel
theorem dX5_readCodewords_96 : decode cX5_readCodewords 96 = .ok (.invokevirtual 60, 3) := by decide +kernel
theorem dX5_readCodewords_99 : decode cX5_readCodewords 99 = .ok (.ireturn, 1) := by decide +kernel
theorem dX5_readCodewords_100 : decode cX5_readCodewords 100 = .ok (.iinc 2 1, 3) := by decide +kernel
theorem dX5_readCodewords_103 : decode cX5_readCodewords 103 = .ok (.goto (-101), 3) := by decide +kernel
theorem dX5_readCodewords_106 : decode cX5_readCodewords 106 = .ok (.aload_n 0, 1) := by decide +kernel
theorem dX5_readCodewords_107 : decode cX5_readCodewords 107 = .ok (.iconst 1, 1) := by decide +kernel
theorem dX5_readCodewords_108 : decode cX5_readCodewords 108 = .ok (.invokevirtual 60, 3) := by decide +kernel
theorem dX5_readCodewords_111 : decode cX5_readCodewords 111 = .ok (.ireturn, 1) := by decide +kernel
theorem dX5_numberIn_0 : decode cX5_numberIn 0 = .ok (.aload_n 0, 1) := by decide +kernel
theorem dX5_numberIn_1 : decode cX5_numberIn 1 = .ok (.getfield 44, 3) := by decide +kernel
theorem dX5_numberIn_4 : decode cX5_numberIn 4 = .ok (.aload_n 0, 1) := by decide +kernel
theorem dX5_numberIn_5 : decode cX5_numberIn 5 = .ok (.getfield 106, 3) := by decide +kernel
theorem dX5_numberIn_8 : decode cX5_numberIn 8 = .ok (.isub, 1) := by decide +kernel
theorem dX5_numberIn_9 : decode cX5_numberIn 9 = .ok (.aload_n 1, 1) := by decide +kernel
theorem dX5_numberIn_10 : decode cX5_numberIn 10 = .ok (.getfield 120, 3) := by decide +kernel
theorem dX5_numberIn_13 : decode cX5_numberIn 13 = .ok (.if_icmp .eq 5, 3) := by decide +kernel
theorem dX5_numberIn_16 : decode cX5_numberIn 16 = .ok (.iconst (-1), 1) := by decide +kernel
theorem dX5_numberIn_17 : decode cX5_numberIn 17 = .ok (.ireturn, 1) := by decide +kernel
theorem dX5_numberIn_18 : decode cX5_numberIn 18 = .ok (.iconst 0, 1) := by decide +kernel
theorem dX5_numberIn_19 : decode cX5_numberIn 19 = .ok (.istore_n 2, 1) := by decide +kernel
theorem dX5_numberIn_20 : decode cX5_numberIn 20 = .ok (.iconst 0, 1) := by decide +kernel
theorem dX5_numberIn_21 : decode cX5_numberIn 21 = .ok (.istore_n 3, 1) := by decide +kernel
theorem dX5_numberIn_22 : decode cX5_numberIn 22 = .ok (.iload_n 3, 1) := by decide +kernel
theorem dX5_numberIn_23 : decode cX5_numberIn 23 = .ok (.aload_n 1, 1) := by decide +kernel
theorem dX5_numberIn_24 : decode cX5_numberIn 24 = .ok (.getfield 120, 3) := by decide +kernel
theorem dX5_numberIn_27 : decode cX5_numberIn 27 = .ok (.if_icmp .ge 50, 3) := by decide +kernel
theorem dX5_numberIn_30 : decode cX5_numberIn 30 = .ok (.aload_n 0, 1) := by decide +kernel
theorem dX5_numberIn_31 : decode cX5_numberIn 31 = .ok (.getfield 11, 3) := by decide +kernel
theorem dX5_numberIn_34 : decode cX5_numberIn 34 = .ok (.aload_n 0, 1) := by decide +kernel
theorem dX5_numberIn_35 : decode cX5_numberIn 35 = .ok (.getfield 106, 3) := by decide +kernel
theorem dX5_numberIn_38 : decode cX5_numberIn 38 = .ok (.iload_n 3, 1) := by decide +kernel
theorem dX5_numberIn_39 : decode cX5_numberIn 39 = .ok (.iadd, 1) := by decide +kernel
theorem dX5_numberIn_40 : decode cX5_numberIn 40 = .ok (.iaload, 1) := by decide +kernel
theorem dX5_numberIn_41 : decode cX5_numberIn 41 = .ok (.bipush 48, 2) := by decide +kernel
theorem dX5_numberIn_43 : decode cX5_numberIn 43 = .ok (.isub, 1) := by decide +kernel
theorem dX5_numberIn_44 : decode cX5_numberIn 44 = .ok (.istore 4, 2) := by decide +kernel
theorem dX5_numberIn_46 : decode cX5_numberIn 46 = .ok (.iload 4, 2) := by decide +kernel
theorem dX5_numberIn_48 : decode cX5_numberIn 48 = .ok (.aload_n 1, 1) := by decide +kernel
theorem dX5_numberIn_49 : decode cX5_numberIn 49 = .ok (.getfield 140, 3) := by decide +kernel
theorem dX5_numberIn_52 : decode cX5_numberIn 52 = .ok (.iload_n 3, 1) := by decide +kernel
theorem dX5_numberIn_53 : decode cX5_numberIn 53 = .ok (.iaload, 1) := by decide +kernel
theorem dX5_numberIn_54 : decode cX5_numberIn 54 = .ok (.if_icmp .lt 5, 3) := by decide +kernel
theorem dX5_numberIn_57 : decode cX5_numberIn 57 = .ok (.iconst (-1), 1) := by decide +kernel
theorem dX5_numberIn_58 : decode cX5_numberIn 58 = .ok (.ireturn, 1) := by decide +kernel
theorem dX5_numberIn_59 : decode cX5_numberIn 59 = .ok (.iload_n 2, 1) := by decide +kernel
theorem dX5_numberIn_60 : decode cX5_numberIn 60 = .ok (.aload_n 1, 1) := by decide +kernel
theorem dX5_numberIn_61 : decode cX5_numberIn 61 = .ok (.getfield 140, 3) := by decide +kernel
theorem dX5_numberIn_64 : decode cX5_numberIn 64 = .ok (.iload_n 3, 1) := by decide +kernel
theorem dX5_numberIn_65 : decode cX5_numberIn 65 = .ok (.iaload, 1) := by decide +kernel
theorem dX5_numberIn_66 : decode cX5_numberIn 66 = .ok (.imul, 1) := by decide +kernel
theorem dX5_numberIn_67 : decode cX5_numberIn 67 = .ok (.iload 4, 2) := by decide +kernel
theorem dX5_numberIn_69 : decode cX5_numberIn 69 = .ok (.iadd, 1) := by decide +kernel
theorem dX5_numberIn_70 : decode cX5_numberIn 70 = .ok (.istore_n 2, 1) := by decide +kernel
theorem dX5_numberIn_71 : decode cX5_numberIn 71 = .ok (.iinc 3 1, 3) := by decide +kernel
theorem dX5_numberIn_74 : decode cX5_numberIn 74 = .ok (.goto (-52), 3) := by decide +kernel
theorem dX5_numberIn_77 : decode cX5_numberIn 77 = .ok (.iload_n 2, 1) := by decide +kernel
theorem dX5_numberIn_78 : decode cX5_numberIn 78 = .ok (.ireturn, 1) := by decide +kernel
theorem dX5_singleDigit_0 : decode cX5_singleDigit 0 = .ok (.aload_n 0, 1) := by decide +kernel
theorem dX5_singleDigit_1 : decode cX5_singleDigit 1 = .ok (.getfield 44, 3) := by decide +kernel
theorem dX5_singleDigit_4 : decode cX5_singleDigit 4 = .ok (.aload_n 0, 1) := by decide +kernel
theorem dX5_singleDigit_5 : decode cX5_singleDigit 5 = .ok (.getfield 106, 3) := by decide +kernel
theorem dX5_singleDigit_8 : decode cX5_singleDigit 8 = .ok (.isub, 1) := by decide +kernel
theorem dX5_singleDigit_9 : decode cX5_singleDigit 9 = .ok (.iconst 1, 1) := by decide +kernel
theorem dX5_singleDigit_10 : decode cX5_singleDigit 10 = .ok (.if_icmp .ne 18, 3) := by decide +kernel
theorem dX5_singleDigit_13 : decode cX5_singleDigit 13 = .ok (.aload_n 0, 1) := by decide +kernel
theorem dX5_singleDigit_14 : decode cX5_singleDigit 14 = .ok (.getfield 11, 3) := by decide +kernel
theorem dX5_singleDigit_17 : decode cX5_singleDigit 17 = .ok (.aload_n 0, 1) := by decide +kernel
theorem dX5_singleDigit_18 : decode cX5_singleDigit 18 = .ok (.getfield 106, 3) := by decide +kernel
theorem dX5_singleDigit_21 : decode cX5_singleDigit 21 = .ok (.iaload, 1) := by decide +kernel
theorem dX5_singleDigit_22 : decode cX5_singleDigit 22 = .ok (.bipush 48, 2) := by decide +kernel
theorem dX5_singleDigit_24 : decode cX5_singleDigit 24 = .ok (.isub, 1) := by decide +kernel
theorem dX5_singleDigit_25 : decode cX5_singleDigit 25 = .ok (.goto 4, 3) := by decide +kernel
theorem dX5_singleDigit_28 : decode cX5_singleDigit 28 = .ok (.iconst (-1), 1) := by decide +kernel
theorem dX5_singleDigit_29 : decode cX5_singleDigit 29 = .ok (.ireturn, 1) := by decide +kernel
theorem dX5_isSign_0 : decode cX5_isSign 0 = .ok (.aload_n 0, 1) := by decide +kernel
theorem dX5_isSign_1 : decode cX5_isSign 1 = .ok (.getfield 57, 3) := by decide +kernel
theorem dX5_isSign_4 : decode cX5_isSign 4 = .ok (.iconst 3, 1) := by decide +kernel
theorem dX5_isSign_5 : decode cX5_isSign 5 = .ok (.if_icmp .ne 20, 3) := by decide +kernel
theorem dX5_isSign_8 : decode cX5_isSign 8 = .ok (.aload_n 0, 1) := by decide +kernel
theorem dX5_isSign_9 : decode cX5_isSign 9 = .ok (.getfield 11, 3) := by decide +kernel
theorem dX5_isSign_12 : decode cX5_isSign 12 = .ok (.aload_n 0, 1) := by decide +kernel
theorem dX5_isSign_13 : decode cX5_isSign 13 = .ok (.getfield 106, 3) := by decide +kernel
theorem dX5_isSign_16 : decode cX5_isSign 16 = .ok (.iaload, 1) := by decide +kernel
theorem dX5_isSign_17 : decode cX5_isSign 17 = .ok (.iload_n 1, 1) := by decide +kernel
theorem dX5_isSign_18 : decode cX5_isSign 18 = .ok (.if_icmp .ne 7, 3) := by decide +kernel
theorem dX5_isSign_21 : decode cX5_isSign 21 = .ok (.iconst 1, 1) := by decide +kernel
theorem dX5_isSign_22 : decode cX5_isSign 22 = .ok (.goto 4, 3) := by decide +kernel
theorem dX5_isSign_25 : decode cX5_isSign 25 = .ok (.iconst 0, 1) := by decide +kernel
theorem dX5_isSign_26 : decode cX5_isSign 26 = .ok (.ireturn, 1) := by decide +kernel
theorem dX5_isKeyword_0 : decode cX5_isKeyword 0 = .ok (.aload_n 0, 1) := by decide +kernel
theorem dX5_isKeyword_1 : decode cX5_isKeyword 1 = .ok (.getfield 57, 3) := by decide +kernel
theorem dX5_isKeyword_4 : decode cX5_isKeyword 4 = .ok (.iconst 1, 1) := by decide +kernel
theorem dX5_isKeyword_5 : decode cX5_isKeyword 5 = .ok (.if_icmp .ne 19, 3) := by decide +kernel
theorem dX5_isKeyword_8 : decode cX5_isKeyword 8 = .ok (.aload_n 0, 1) := by decide +kernel
theorem dX5_isKeyword_9 : decode cX5_isKeyword 9 = .ok (.getfield 44, 3) := by decide +kernel
theorem dX5_isKeyword_12 : decode cX5_isKeyword 12 = .ok (.aload_n 0, 1) := by decide +kernel
theorem dX5_isKeyword_13 : decode cX5_isKeyword 13 = .ok (.getfield 106, 3) := by decide +kernel
theorem dX5_isKeyword_16 : decode cX5_isKeyword 16 = .ok (.isub, 1) := by decide +kernel
theorem dX5_isKeyword_17 : decode cX5_isKeyword 17 = .ok (.aload_n 1, 1) := by decide +kernel
theorem dX5_isKeyword_18 : decode cX5_isKeyword 18 = .ok (.invokevirtual 143, 3) := by decide +kernel
theorem dX5_isKeyword_21 : decode cX5_isKeyword 21 = .ok (.if_icmp .eq 5, 3) := by decide +kernel
theorem dX5_isKeyword_24 : decode cX5_isKeyword 24 = .ok (.iconst 0, 1) := by decide +kernel
theorem dX5_isKeyword_25 : decode cX5_isKeyword 25 = .ok (.ireturn, 1) := by decide +kernel
theorem dX5_isKeyword_26 : decode cX5_isKeyword 26 = .ok (.iconst 0, 1) := by decide +kernel
theorem dX5_isKeyword_27 : decode cX5_isKeyword 27 = .ok (.istore_n 2, 1) := by decide +kernel
theorem dX5_isKeyword_28 : decode cX5_isKeyword 28 = .ok (.iload_n 2, 1) := by decide +kernel
theorem dX5_isKeyword_29 : decode cX5_isKeyword 29 = .ok (.aload_n 1, 1) := by decide +kernel
theorem dX5_isKeyword_30 : decode cX5_isKeyword 30 = .ok (.invokevirtual 143, 3) := by decide +kernel
theorem dX5_isKeyword_33 : decode cX5_isKeyword 33 = .ok (.if_icmp .ge 30, 3) := by decide +kernel
theorem dX5_isKeyword_36 : decode cX5_isKeyword 36 = .ok (.aload_n 0, 1) := by decide +kernel
theorem dX5_isKeyword_37 : decode cX5_isKeyword 37 = .ok (.getfield 11, 3) := by decide +kernel
theorem dX5_isKeyword_40 : decode cX5_isKeyword 40 = .ok (.aload_n 0, 1) := by decide +kernel
theorem dX5_isKeyword_41 : decode cX5_isKeyword 41 = .ok (.getfield 106, 3) := by decide +kernel
theorem dX5_isKeyword_44 : decode cX5_isKeyword 44 = .ok (.iload_n 2, 1) := by decide +kernel
theorem dX5_isKeyword_45 : decode cX5_isKeyword 45 = .ok (.iadd, 1) := by decide +kernel
theorem dX5_isKeyword_46 : decode cX5_isKeyword 46 = .ok (.iaload, 1) := by decide +kernel
theorem dX5_isKeyword_47 : decode cX5_isKeyword 47 = .ok (.aload_n 1, 1) := by decide +kernel
theorem dX5_isKeyword_48 : decode cX5_isKeyword 48 = .ok (.iload_n 2, 1) := by decide +kernel
theorem dX5_isKeyword_49 : decode cX5_isKeyword 49 = .ok (.invokevirtual 147, 3) := by decide +kernel
theorem dX5_isKeyword_52 : decode cX5_isKeyword 52 = .ok (.if_icmp .eq 5, 3) := by decide +kernel
theorem dX5_isKeyword_55 : decode cX5_isKeyword 55 = .ok (.iconst 0, 1) := by decide +kernel
theorem dX5_isKeyword_56 : decode cX5_isKeyword 56 = .ok (.ireturn, 1) := by decide +kernel
theorem dX5_isKeyword_57 : decode cX5_isKeyword 57 = .ok (.iinc 2 1, 3) := by decide +kernel
theorem dX5_isKeyword_60 : decode cX5_isKeyword 60 = .ok (.goto (-32), 3) := by decide +kernel
theorem dX5_isKeyword_63 : decode cX5_isKeyword 63 = .ok (.iconst 1, 1) := by decide +kernel
theorem dX5_isKeyword_64 : decode cX5_isKeyword 64 = .ok (.ireturn, 1) := by decide +kernel
theorem dX5_advance_0 : decode cX5_advance 0 = .ok (.aload_n 0, 1) := by decide +kernel
theorem dX5_advance_1 : decode cX5_advance 1 = .ok (.aload_n 0, 1) := by decide +kernel
theorem dX5_advance_2 : decode cX5_advance 2 = .ok (.getfield 44, 3) := by decide +kernel
theorem dX5_advance_5 : decode cX5_advance 5 = .ok (.putfield 106, 3) := by decide +kernel
theorem dX5_advance_8 : decode cX5_advance 8 = .ok (.aload_n 0, 1) := by decide +kernel
theorem dX5_advance_9 : decode cX5_advance 9 = .ok (.getfield 106, 3) := by decide +kernel
theorem dX5_advance_12 : decode cX5_advance 12 = .ok (.aload_n 0, 1) := by decide +kernel
theorem dX5_advance_13 : decode cX5_advance 13 = .ok (.getfield 41, 3) := by decide +kernel
theorem dX5_advance_16 : decode cX5_advance 16 = .ok (.if_icmp .ge 30, 3) := by decide +kernel
theorem dX5_advance_19 : decode cX5_advance 19 = .ok (.aload_n 0, 1) := by decide +kernel
theorem dX5_advance_20 : decode cX5_advance 20 = .ok (.getfield 11, 3) := by decide +kernel
theorem dX5_advance_23 : decode cX5_advance 23 = .ok (.aload_n 0, 1) := by decide +kernel
theorem dX5_advance_24 : decode cX5_advance 24 = .ok (.getfield 106, 3) := by decide +kernel
theorem dX5_advance_27 : decode cX5_advance 27 = .ok (.iaload, 1) := by decide +kernel
theorem dX5_advance_28 : decode cX5_advance 28 = .ok (.bipush 32, 2) := by decide +kernel
theorem dX5_advance_30 : decode cX5_advance 30 = .ok (.if_icmp .ne 16, 3) := by decide +kernel
theorem dX5_advance_33 : decode cX5_advance 33 = .ok (.aload_n 0, 1) := by decide +kernel
theorem dX5_advance_34 : decode cX5_advance 34 = .ok (.dup, 1) := by decide +kernel
theorem dX5_advance_35 : decode cX5_advance 35 = .ok (.getfield 106, 3) := by decide +kernel
theorem dX5_advance_38 : decode cX5_advance 38 = .ok (.iconst 1, 1) := by decide +kernel
theorem dX5_advance_39 : decode cX5_advance 39 = .ok (.iadd, 1) := by decide +kernel
theorem dX5_advance_40 : decode cX5_advance 40 = .ok (.putfield 106, 3) := by decide +kernel
theorem dX5_advance_43 : decode cX5_advance 43 = .ok (.goto (-35), 3) := by decide +kernel
theorem dX5_advance_46 : decode cX5_advance 46 = .ok (.aload_n 0, 1) := by decide +kernel
theorem dX5_advance_47 : decode cX5_advance 47 = .ok (.getfield 106, 3) := by decide +kernel
theorem dX5_advance_50 : decode cX5_advance 50 = .ok (.aload_n 0, 1) := by decide +kernel
theorem dX5_advance_51 : decode cX5_advance 51 = .ok (.getfield 41, 3) := by decide +kernel
theorem dX5_advance_54 : decode cX5_advance 54 = .ok (.if_icmp .lt 19, 3) := by decide +kernel
theorem dX5_advance_57 : decode cX5_advance 57 = .ok (.aload_n 0, 1) := by decide +kernel
theorem dX5_advance_58 : decode cX5_advance 58 = .ok (.iconst 0, 1) := by decide +kernel
theorem dX5_advance_59 : decode cX5_advance 59 = .ok (.putfield 57, 3) := by decide +kernel
theorem dX5_advance_62 : decode cX5_advance 62 = .ok (.aload_n 0, 1) := by decide +kernel
theorem dX5_advance_63 : decode cX5_advance 63 = .ok (.aload_n 0, 1) := by decide +kernel
theorem dX5_advance_64 : decode cX5_advance 64 = .ok (.getfield 106, 3) := by decide +kernel
theorem dX5_advance_67 : decode cX5_advance 67 = .ok (.putfield 44, 3) := by decide +kernel
theorem dX5_advance_70 : decode cX5_advance 70 = .ok (.goto 135, 3) := by decide +kernel
theorem dX5_advance_73 : decode cX5_advance 73 = .ok (.aload_n 0, 1) := by decide +kernel
theorem dX5_advance_74 : decode cX5_advance 74 = .ok (.getfield 11, 3) := by decide +kernel
theorem dX5_advance_77 : decode cX5_advance 77 = .ok (.aload_n 0, 1) := by decide +kernel
theorem dX5_advance_78 : decode cX5_advance 78 = .ok (.getfield 106, 3) := by decide +kernel
theorem dX5_advance_81 : decode cX5_advance 81 = .ok (.iaload, 1) := by decide +kernel
theorem dX5_advance_82 : decode cX5_advance 82 = .ok (.invokestatic 151, 3) := by decide +kernel
theorem dX5_advance_85 : decode cX5_advance 85 = .ok (.ifCond .eq 37, 3) := by decide +kernel
theorem dX5_advance_88 : decode cX5_advance 88 = .ok (.aload_n 0, 1) := by decide +kernel
theorem dX5_advance_89 : decode cX5_advance 89 = .ok (.aload_n 0, 1) := by decide +kernel
theorem dX5_advance_90 : decode cX5_advance 90 = .ok (.invokevirtual 154, 3) := by decide +kernel
theorem dX5_advance_93 : decode cX5_advance 93 = .ok (.putfield 44, 3) := by decide +kernel
theorem dX5_advance_96 : decode cX5_advance 96 = .ok (.aload_n 0, 1) := by decide +kernel
theorem dX5_advance_97 : decode cX5_advance 97 = .ok (.aload_n 0, 1) := by decide +kernel
theorem dX5_advance_98 : decode cX5_advance 98 = .ok (.getfield 44, 3) := by decide +kernel
theorem dX5_advance_101 : decode cX5_advance 101 = .ok (.aload_n 0, 1) := by decide +kernel
theorem dX5_advance_102 : decode cX5_advance 102 = .ok (.getfield 106, 3) := by decide +kernel
theorem dX5_advance_105 : decode cX5_advance 105 = .ok (.isub, 1) := by decide +kernel
theorem dX5_advance_106 : decode cX5_advance 106 = .ok (.bipush 6, 2) := by decide +kernel
theorem dX5_advance_108 : decode cX5_advance 108 = .ok (.if_icmp .gt 7, 3) := by decide +kernel
theorem dX5_advance_111 : decode cX5_advance 111 = .ok (.iconst 1, 1) := by decide +kernel
theorem dX5_advance_112 : decode cX5_advance 112 = .ok (.goto 4, 3) := by decide +kernel
theorem dX5_advance_115 : decode cX5_advance 115 = .ok (.iconst 4, 1) := by decide +kernel
theorem dX5_advance_116 : decode cX5_advance 116 = .ok (.putfield 57, 3) := by decide +kernel
theorem dX5_advance_119 : decode cX5_advance 119 = .ok (.goto 86, 3) := by decide +kernel
theorem dX5_advance_122 : decode cX5_advance 122 = .ok (.aload_n 0, 1) := by decide +kernel
theorem dX5_advance_123 : decode cX5_advance 123 = .ok (.getfield 11, 3) := by decide +kernel
theorem dX5_advance_126 : decode cX5_advance 126 = .ok (.aload_n 0, 1) := by decide +kernel
theorem dX5_advance_127 : decode cX5_advance 127 = .ok (.getfield 106, 3) := by decide +kernel
theorem dX5_advance_130 : decode cX5_advance 130 = .ok (.iaload, 1) := by decide +kernel
theorem dX5_advance_131 : decode cX5_advance 131 = .ok (.invokestatic 157, 3) := by decide +kernel
theorem dX5_advance_134 : decode cX5_advance 134 = .ok (.ifCond .eq 37, 3) := by decide +kernel
