theorem dX11_divisor_0 : decode cX11_divisor 0 = .ok (.lload_n 2, 1) := by decide +kernel
theorem dX11_divisor_1 : decode cX11_divisor 1 = .ok (.lstore 4, 2) := by decide +kernel
theorem dX11_divisor_3 : decode cX11_divisor 3 = .ok (.lload_n 0, 1) := by decide +kernel
theorem dX11_divisor_4 : decode cX11_divisor 4 = .ok (.lstore 6, 2) := by decide +kernel
theorem dX11_divisor_6 : decode cX11_divisor 6 = .ok (.iconst 0, 1) := by decide +kernel
theorem dX11_divisor_7 : decode cX11_divisor 7 = .ok (.istore 8, 2) := by decide +kernel
theorem dX11_divisor_9 : decode cX11_divisor 9 = .ok (.iload 8, 2) := by decide +kernel
theorem dX11_divisor_11 : decode cX11_divisor 11 = .ok (.bipush 100, 2) := by decide +kernel
theorem dX11_divisor_13 : decode cX11_divisor 13 = .ok (.if_icmp .ge 31, 3) := by decide +kernel
theorem dX11_divisor_16 : decode cX11_divisor 16 = .ok (.lload 6, 2) := by decide +kernel
theorem dX11_divisor_18 : decode cX11_divisor 18 = .ok (.lconst 0, 1) := by decide +kernel
theorem dX11_divisor_19 : decode cX11_divisor 19 = .ok (.lcmp, 1) := by decide +kernel
theorem dX11_divisor_20 : decode cX11_divisor 20 = .ok (.ifCond .eq 24, 3) := by decide +kernel
theorem dX11_divisor_23 : decode cX11_divisor 23 = .ok (.lload 4, 2) := by decide +kernel
theorem dX11_divisor_25 : decode cX11_divisor 25 = .ok (.lload 6, 2) := by decide +kernel
theorem dX11_divisor_27 : decode cX11_divisor 27 = .ok (.lrem, 1) := by decide +kernel
theorem dX11_divisor_28 : decode cX11_divisor 28 = .ok (.lstore 9, 2) := by decide +kernel
theorem dX11_divisor_30 : decode cX11_divisor 30 = .ok (.lload 6, 2) := by decide +kernel
theorem dX11_divisor_32 : decode cX11_divisor 32 = .ok (.lstore 4, 2) := by decide +kernel
theorem dX11_divisor_34 : decode cX11_divisor 34 = .ok (.lload 9, 2) := by decide +kernel
theorem dX11_divisor_36 : decode cX11_divisor 36 = .ok (.lstore 6, 2) := by decide +kernel
theorem dX11_divisor_38 : decode cX11_divisor 38 = .ok (.iinc 8 1, 3) := by decide +kernel
theorem dX11_divisor_41 : decode cX11_divisor 41 = .ok (.goto (-32), 3) := by decide +kernel
theorem dX11_divisor_44 : decode cX11_divisor 44 = .ok (.lload 4, 2) := by decide +kernel
theorem dX11_divisor_46 : decode cX11_divisor 46 = .ok (.lreturn, 1) := by decide +kernel
theorem dX11_within_0 : decode cX11_within 0 = .ok (.iload_n 0, 1) := by decide +kernel
theorem dX11_within_1 : decode cX11_within 1 = .ok (.iload_n 1, 1) := by decide +kernel
theorem dX11_within_2 : decode cX11_within 2 = .ok (.if_icmp .lt 12, 3) := by decide +kernel
theorem dX11_within_5 : decode cX11_within 5 = .ok (.iload_n 0, 1) := by decide +kernel
theorem dX11_within_6 : decode cX11_within 6 = .ok (.iload_n 2, 1) := by decide +kernel
theorem dX11_within_7 : decode cX11_within 7 = .ok (.if_icmp .gt 7, 3) := by decide +kernel
theorem dX11_within_10 : decode cX11_within 10 = .ok (.iconst 1, 1) := by decide +kernel
theorem dX11_within_11 : decode cX11_within 11 = .ok (.goto 4, 3) := by decide +kernel
theorem dX11_within_14 : decode cX11_within 14 = .ok (.iconst 0, 1) := by decide +kernel
theorem dX11_within_15 : decode cX11_within 15 = .ok (.ireturn, 1) := by decide +kernel
theorem dX11_isCell_0 : decode cX11_isCell 0 = .ok (.iload_n 0, 1) := by decide +kernel
theorem dX11_isCell_1 : decode cX11_isCell 1 = .ok (.iconst 0, 1) := by decide +kernel
theorem dX11_isCell_2 : decode cX11_isCell 2 = .ok (.bipush 63, 2) := by decide +kernel
theorem dX11_isCell_4 : decode cX11_isCell 4 = .ok (.invokestatic 73, 3) := by decide +kernel
theorem dX11_isCell_7 : decode cX11_isCell 7 = .ok (.ireturn, 1) := by decide +kernel
theorem dX11_isHour_0 : decode cX11_isHour 0 = .ok (.iload_n 0, 1) := by decide +kernel
theorem dX11_isHour_1 : decode cX11_isHour 1 = .ok (.iconst 0, 1) := by decide +kernel
theorem dX11_isHour_2 : decode cX11_isHour 2 = .ok (.bipush 11, 2) := by decide +kernel
theorem dX11_isHour_4 : decode cX11_isHour 4 = .ok (.invokestatic 73, 3) := by decide +kernel
theorem dX11_isHour_7 : decode cX11_isHour 7 = .ok (.ireturn, 1) := by decide +kernel
theorem dX11_isOwner_0 : decode cX11_isOwner 0 = .ok (.iload_n 0, 1) := by decide +kernel
theorem dX11_isOwner_1 : decode cX11_isOwner 1 = .ok (.iconst 0, 1) := by decide +kernel
theorem dX11_isOwner_2 : decode cX11_isOwner 2 = .ok (.iconst 3, 1) := by decide +kernel
theorem dX11_isOwner_3 : decode cX11_isOwner 3 = .ok (.invokestatic 73, 3) := by decide +kernel
theorem dX11_isOwner_6 : decode cX11_isOwner 6 = .ok (.ireturn, 1) := by decide +kernel
theorem dX11_farBetween_0 : decode cX11_farBetween 0 = .ok (.iload_n 0, 1) := by decide +kernel
theorem dX11_farBetween_1 : decode cX11_farBetween 1 = .ok (.bipush 8, 2) := by decide +kernel
theorem dX11_farBetween_3 : decode cX11_farBetween 3 = .ok (.irem, 1) := by decide +kernel
theorem dX11_farBetween_4 : decode cX11_farBetween 4 = .ok (.iload_n 1, 1) := by decide +kernel
theorem dX11_farBetween_5 : decode cX11_farBetween 5 = .ok (.bipush 8, 2) := by decide +kernel
theorem dX11_farBetween_7 : decode cX11_farBetween 7 = .ok (.irem, 1) := by decide +kernel
theorem dX11_farBetween_8 : decode cX11_farBetween 8 = .ok (.isub, 1) := by decide +kernel
theorem dX11_farBetween_9 : decode cX11_farBetween 9 = .ok (.invokestatic 274, 3) := by decide +kernel
theorem dX11_farBetween_12 : decode cX11_farBetween 12 = .ok (.iload_n 0, 1) := by decide +kernel
theorem dX11_farBetween_13 : decode cX11_farBetween 13 = .ok (.bipush 8, 2) := by decide +kernel
theorem dX11_farBetween_15 : decode cX11_farBetween 15 = .ok (.idiv, 1) := by decide +kernel
theorem dX11_farBetween_16 : decode cX11_farBetween 16 = .ok (.iload_n 1, 1) := by decide +kernel
theorem dX11_farBetween_17 : decode cX11_farBetween 17 = .ok (.bipush 8, 2) := by decide +kernel
theorem dX11_farBetween_19 : decode cX11_farBetween 19 = .ok (.idiv, 1) := by decide +kernel
theorem dX11_farBetween_20 : decode cX11_farBetween 20 = .ok (.isub, 1) := by decide +kernel
theorem dX11_farBetween_21 : decode cX11_farBetween 21 = .ok (.invokestatic 274, 3) := by decide +kernel
theorem dX11_farBetween_24 : decode cX11_farBetween 24 = .ok (.iadd, 1) := by decide +kernel
theorem dX11_farBetween_25 : decode cX11_farBetween 25 = .ok (.ireturn, 1) := by decide +kernel
theorem dX12_init_0 : decode cX12_init 0 = .ok (.aload_n 0, 1) := by decide +kernel
theorem dX12_init_1 : decode cX12_init 1 = .ok (.invokespecial 1, 3) := by decide +kernel
theorem dX12_init_4 : decode cX12_init 4 = .ok (.aload_n 0, 1) := by decide +kernel
theorem dX12_init_5 : decode cX12_init 5 = .ok (.sipush 129, 3) := by decide +kernel
theorem dX12_init_8 : decode cX12_init 8 = .ok (.newarray .int, 2) := by decide +kernel
theorem dX12_init_10 : decode cX12_init 10 = .ok (.putfield 7, 3) := by decide +kernel
theorem dX12_init_13 : decode cX12_init 13 = .ok (.aload_n 0, 1) := by decide +kernel
theorem dX12_init_14 : decode cX12_init 14 = .ok (.sipush 258, 3) := by decide +kernel
theorem dX12_init_17 : decode cX12_init 17 = .ok (.newarray .int, 2) := by decide +kernel
theorem dX12_init_19 : decode cX12_init 19 = .ok (.putfield 13, 3) := by decide +kernel
theorem dX12_init_22 : decode cX12_init 22 = .ok (.aload_n 0, 1) := by decide +kernel
theorem dX12_init_23 : decode cX12_init 23 = .ok (.iconst 2, 1) := by decide +kernel
theorem dX12_init_24 : decode cX12_init 24 = .ok (.newarray .boolean, 2) := by decide +kernel
theorem dX12_init_26 : decode cX12_init 26 = .ok (.putfield 16, 3) := by decide +kernel
theorem dX12_init_29 : decode cX12_init 29 = .ok (.aload_n 0, 1) := by decide +kernel
theorem dX12_init_30 : decode cX12_init 30 = .ok (.iconst 3, 1) := by decide +kernel
theorem dX12_init_31 : decode cX12_init 31 = .ok (.newarray .int, 2) := by decide +kernel
theorem dX12_init_33 : decode cX12_init 33 = .ok (.putfield 20, 3) := by decide +kernel
theorem dX12_init_36 : decode cX12_init 36 = .ok (.aload_n 0, 1) := by decide +kernel
theorem dX12_init_37 : decode cX12_init 37 = .ok (.lconst 1, 1) := by decide +kernel
theorem dX12_init_38 : decode cX12_init 38 = .ok (.putfield 23, 3) := by decide +kernel
theorem dX12_init_41 : decode cX12_init 41 = .ok (.aload_n 0, 1) := by decide +kernel
theorem dX12_init_42 : decode cX12_init 42 = .ok (.bipush 7, 2) := by decide +kernel
theorem dX12_init_44 : decode cX12_init 44 = .ok (.newarray .int, 2) := by decide +kernel
theorem dX12_init_46 : decode cX12_init 46 = .ok (.putfield 27, 3) := by decide +kernel
theorem dX12_init_49 : decode cX12_init 49 = .ok (.aload_n 0, 1) := by decide +kernel
theorem dX12_init_50 : decode cX12_init 50 = .ok (.bipush 7, 2) := by decide +kernel
theorem dX12_init_52 : decode cX12_init 52 = .ok (.newarray .int, 2) := by decide +kernel
theorem dX12_init_54 : decode cX12_init 54 = .ok (.putfield 30, 3) := by decide +kernel
theorem dX12_init_57 : decode cX12_init 57 = .ok (.aload_n 0, 1) := by decide +kernel
theorem dX12_init_58 : decode cX12_init 58 = .ok (.bipush 64, 2) := by decide +kernel
theorem dX12_init_60 : decode cX12_init 60 = .ok (.newarray .int, 2) := by decide +kernel
theorem dX12_init_62 : decode cX12_init 62 = .ok (.putfield 33, 3) := by decide +kernel
theorem dX12_init_65 : decode cX12_init 65 = .ok (.aload_n 0, 1) := by decide +kernel
theorem dX12_init_66 : decode cX12_init 66 = .ok (.iconst 4, 1) := by decide +kernel
theorem dX12_init_67 : decode cX12_init 67 = .ok (.newarray .int, 2) := by decide +kernel
theorem dX12_init_69 : decode cX12_init 69 = .ok (.putfield 36, 3) := by decide +kernel
theorem dX12_init_72 : decode cX12_init 72 = .ok (.aload_n 0, 1) := by decide +kernel
theorem dX12_init_73 : decode cX12_init 73 = .ok (.iconst 4, 1) := by decide +kernel
theorem dX12_init_74 : decode cX12_init 74 = .ok (.newarray .int, 2) := by decide +kernel
theorem dX12_init_76 : decode cX12_init 76 = .ok (.putfield 39, 3) := by decide +kernel
theorem dX12_init_79 : decode cX12_init 79 = .ok (.aload_n 0, 1) := by decide +kernel
theorem dX12_init_80 : decode cX12_init 80 = .ok (.sipush 128, 3) := by decide +kernel
theorem dX12_init_83 : decode cX12_init 83 = .ok (.newarray .boolean, 2) := by decide +kernel
theorem dX12_init_85 : decode cX12_init 85 = .ok (.putfield 42, 3) := by decide +kernel
theorem dX12_init_88 : decode cX12_init 88 = .ok (.aload_n 0, 1) := by decide +kernel
theorem dX12_init_89 : decode cX12_init 89 = .ok (.bipush 24, 2) := by decide +kernel
theorem dX12_init_91 : decode cX12_init 91 = .ok (.newarray .int, 2) := by decide +kernel
theorem dX12_init_93 : decode cX12_init 93 = .ok (.putfield 45, 3) := by decide +kernel
theorem dX12_init_96 : decode cX12_init 96 = .ok (.aload_n 0, 1) := by decide +kernel
theorem dX12_init_97 : decode cX12_init 97 = .ok (.sipush 150, 3) := by decide +kernel
theorem dX12_init_100 : decode cX12_init 100 = .ok (.newarray .int, 2) := by decide +kernel
theorem dX12_init_102 : decode cX12_init 102 = .ok (.putfield 48, 3) := by decide +kernel
theorem dX12_init_105 : decode cX12_init 105 = .ok (.aload_n 0, 1) := by decide +kernel
theorem dX12_init_106 : decode cX12_init 106 = .ok (.bipush 65, 2) := by decide +kernel
theorem dX12_init_108 : decode cX12_init 108 = .ok (.newarray .int, 2) := by decide +kernel
theorem dX12_init_110 : decode cX12_init 110 = .ok (.putfield 51, 3) := by decide +kernel
theorem dX12_init_113 : decode cX12_init 113 = .ok (.aload_n 0, 1) := by decide +kernel
theorem dX12_init_114 : decode cX12_init 114 = .ok (.iconst 5, 1) := by decide +kernel
theorem dX12_init_115 : decode cX12_init 115 = .ok (.newarray .int, 2) := by decide +kernel
theorem dX12_init_117 : decode cX12_init 117 = .ok (.putfield 54, 3) := by decide +kernel
theorem dX12_init_120 : decode cX12_init 120 = .ok (.return_, 1) := by decide +kernel
theorem dX12_in_0 : decode cX12_in 0 = .ok (.lload_n 0, 1) := by decide +kernel
theorem dX12_in_1 : decode cX12_in 1 = .ok (.lload_n 2, 1) := by decide +kernel
theorem dX12_in_2 : decode cX12_in 2 = .ok (.lcmp, 1) := by decide +kernel
theorem dX12_in_3 : decode cX12_in 3 = .ok (.ifCond .lt 14, 3) := by decide +kernel
theorem dX12_in_6 : decode cX12_in 6 = .ok (.lload_n 0, 1) := by decide +kernel
theorem dX12_in_7 : decode cX12_in 7 = .ok (.lload 4, 2) := by decide +kernel
theorem dX12_in_9 : decode cX12_in 9 = .ok (.lcmp, 1) := by decide +kernel
theorem dX12_in_10 : decode cX12_in 10 = .ok (.ifCond .gt 7, 3) := by decide +kernel
theorem dX12_in_13 : decode cX12_in 13 = .ok (.iconst 1, 1) := by decide +kernel
theorem dX12_in_14 : decode cX12_in 14 = .ok (.goto 4, 3) := by decide +kernel
theorem dX12_in_17 : decode cX12_in 17 = .ok (.iconst 0, 1) := by decide +kernel
theorem dX12_in_18 : decode cX12_in 18 = .ok (.ireturn, 1) := by decide +kernel
theorem dX12_bad_0 : decode cX12_bad 0 = .ok (.aload_n 0, 1) := by decide +kernel
theorem dX12_bad_1 : decode cX12_bad 1 = .ok (.getfield 20, 3) := by decide +kernel
theorem dX12_bad_4 : decode cX12_bad 4 = .ok (.iconst 0, 1) := by decide +kernel
theorem dX12_bad_5 : decode cX12_bad 5 = .ok (.dup2, 1) := by decide +kernel
theorem dX12_bad_6 : decode cX12_bad 6 = .ok (.iaload, 1) := by decide +kernel
theorem dX12_bad_7 : decode cX12_bad 7 = .ok (.iconst 1, 1) := by decide +kernel
theorem dX12_bad_8 : decode cX12_bad 8 = .ok (.iadd, 1) := by decide +kernel
theorem dX12_bad_9 : decode cX12_bad 9 = .ok (.iastore, 1) := by decide +kernel
theorem dX12_bad_10 : decode cX12_bad 10 = .ok (.iload_n 1, 1) := by decide +kernel
theorem dX12_bad_11 : decode cX12_bad 11 = .ok (.ireturn, 1) := by decide +kernel
theorem dX12_no_0 : decode cX12_no 0 = .ok (.aload_n 0, 1) := by decide +kernel
theorem dX12_no_1 : decode cX12_no 1 = .ok (.getfield 20, 3) := by decide +kernel
theorem dX12_no_4 : decode cX12_no 4 = .ok (.iconst 1, 1) := by decide +kernel
theorem dX12_no_5 : decode cX12_no 5 = .ok (.dup2, 1) := by decide +kernel
theorem dX12_no_6 : decode cX12_no 6 = .ok (.iaload, 1) := by decide +kernel
theorem dX12_no_7 : decode cX12_no 7 = .ok (.iconst 1, 1) := by decide +kernel
theorem dX12_no_8 : decode cX12_no 8 = .ok (.iadd, 1) := by decide +kernel
theorem dX12_no_9 : decode cX12_no 9 = .ok (.iastore, 1) := by decide +kernel
theorem dX12_no_10 : decode cX12_no 10 = .ok (.bipush (-3), 2) := by decide +kernel
theorem dX12_no_12 : decode cX12_no 12 = .ok (.ireturn, 1) := by decide +kernel
theorem dX12_full_0 : decode cX12_full 0 = .ok (.aload_n 0, 1) := by decide +kernel
theorem dX12_full_1 : decode cX12_full 1 = .ok (.getfield 20, 3) := by decide +kernel
theorem dX12_full_4 : decode cX12_full 4 = .ok (.iconst 2, 1) := by decide +kernel
theorem dX12_full_5 : decode cX12_full 5 = .ok (.dup2, 1) := by decide +kernel
theorem dX12_full_6 : decode cX12_full 6 = .ok (.iaload, 1) := by decide +kernel
theorem dX12_full_7 : decode cX12_full 7 = .ok (.iconst 1, 1) := by decide +kernel
theorem dX12_full_8 : decode cX12_full 8 = .ok (.iadd, 1) := by decide +kernel
theorem dX12_full_9 : decode cX12_full 9 = .ok (.iastore, 1) := by decide +kernel
theorem dX12_full_10 : decode cX12_full 10 = .ok (.bipush (-4), 2) := by decide +kernel
theorem dX12_full_12 : decode cX12_full 12 = .ok (.ireturn, 1) := by decide +kernel
theorem dX12_bits_0 : decode cX12_bits 0 = .ok (.iconst 0, 1) := by decide +kernel
theorem dX12_bits_1 : decode cX12_bits 1 = .ok (.istore_n 1, 1) := by decide +kernel
theorem dX12_bits_2 : decode cX12_bits 2 = .ok (.iload_n 0, 1) := by decide +kernel
theorem dX12_bits_3 : decode cX12_bits 3 = .ok (.istore_n 2, 1) := by decide +kernel
theorem dX12_bits_4 : decode cX12_bits 4 = .ok (.iload_n 2, 1) := by decide +kernel
theorem dX12_bits_5 : decode cX12_bits 5 = .ok (.ifCond .le 16, 3) := by decide +kernel
theorem dX12_bits_8 : decode cX12_bits 8 = .ok (.iload_n 1, 1) := by decide +kernel
theorem dX12_bits_9 : decode cX12_bits 9 = .ok (.iload_n 2, 1) := by decide +kernel
theorem dX12_bits_10 : decode cX12_bits 10 = .ok (.iconst 1, 1) := by decide +kernel
theorem dX12_bits_11 : decode cX12_bits 11 = .ok (.iand, 1) := by decide +kernel
theorem dX12_bits_12 : decode cX12_bits 12 = .ok (.iadd, 1) := by decide +kernel
theorem dX12_bits_13 : decode cX12_bits 13 = .ok (.istore_n 1, 1) := by decide +kernel
theorem dX12_bits_14 : decode cX12_bits 14 = .ok (.iload_n 2, 1) := by decide +kernel
theorem dX12_bits_15 : decode cX12_bits 15 = .ok (.iconst 1, 1) := by decide +kernel
theorem dX12_bits_16 : decode cX12_bits 16 = .ok (.ishr, 1) := by decide +kernel
theorem dX12_bits_17 : decode cX12_bits 17 = .ok (.istore_n 2, 1) := by decide +kernel
theorem dX12_bits_18 : decode cX12_bits 18 = .ok (.goto (-14), 3) := by decide +kernel
theorem dX12_bits_21 : decode cX12_bits 21 = .ok (.iload_n 1, 1) := by decide +kernel
theorem dX12_bits_22 : decode cX12_bits 22 = .ok (.ireturn, 1) := by decide +kernel
theorem dX12_begin_0 : decode cX12_begin 0 = .ok (.iconst 0, 1) := by decide +kernel
theorem dX12_begin_1 : decode cX12_begin 1 = .ok (.istore_n 2, 1) := by decide +kernel
theorem dX12_begin_2 : decode cX12_begin 2 = .ok (.iload_n 2, 1) := by decide +kernel
theorem dX12_begin_3 : decode cX12_begin 3 = .ok (.bipush 65, 2) := by decide +kernel
theorem dX12_begin_5 : decode cX12_begin 5 = .ok (.if_icmp .ge 13, 3) := by decide +kernel
theorem dX12_begin_8 : decode cX12_begin 8 = .ok (.aload_n 0, 1) := by decide +kernel
theorem dX12_begin_9 : decode cX12_begin 9 = .ok (.iload_n 2, 1) := by decide +kernel
theorem dX12_begin_10 : decode cX12_begin 10 = .ok (.iconst 0, 1) := by decide +kernel
theorem dX12_begin_11 : decode cX12_begin 11 = .ok (.iastore, 1) := by decide +kernel
theorem dX12_begin_12 : decode cX12_begin 12 = .ok (.iinc 2 1, 3) := by decide +kernel
theorem dX12_begin_15 : decode cX12_begin 15 = .ok (.goto (-13), 3) := by decide +kernel
theorem dX12_begin_18 : decode cX12_begin 18 = .ok (.aload_n 0, 1) := by decide +kernel
theorem dX12_begin_19 : decode cX12_begin 19 = .ok (.iconst 1, 1) := by decide +kernel
theorem dX12_begin_20 : decode cX12_begin 20 = .ok (.iload_n 1, 1) := by decide +kernel
theorem dX12_begin_21 : decode cX12_begin 21 = .ok (.iastore, 1) := by decide +kernel
theorem dX12_begin_22 : decode cX12_begin 22 = .ok (.return_, 1) := by decide +kernel
theorem dX12_candles_0 : decode cX12_candles 0 = .ok (.aload_n 0, 1) := by decide +kernel
theorem dX12_candles_1 : decode cX12_candles 1 = .ok (.getfield 7, 3) := by decide +kernel
theorem dX12_candles_4 : decode cX12_candles 4 = .ok (.iconst 0, 1) := by decide +kernel
theorem dX12_candles_5 : decode cX12_candles 5 = .ok (.iaload, 1) := by decide +kernel
theorem dX12_candles_6 : decode cX12_candles 6 = .ok (.ireturn, 1) := by decide +kernel
theorem dX12_isCandle_0 : decode cX12_isCandle 0 = .ok (.iload_n 1, 1) := by decide +kernel
theorem dX12_isCandle_1 : decode cX12_isCandle 1 = .ok (.i2l, 1) := by decide +kernel
theorem dX12_isCandle_2 : decode cX12_isCandle 2 = .ok (.lconst 0, 1) := by decide +kernel
theorem dX12_isCandle_3 : decode cX12_isCandle 3 = .ok (.aload_n 0, 1) := by decide +kernel
theorem dX12_isCandle_4 : decode cX12_isCandle 4 = .ok (.invokevirtual 57, 3) := by decide +kernel
theorem dX12_isCandle_7 : decode cX12_isCandle 7 = .ok (.iconst 1, 1) := by decide +kernel
theorem dX12_isCandle_8 : decode cX12_isCandle 8 = .ok (.isub, 1) := by decide +kernel
theorem dX12_isCandle_9 : decode cX12_isCandle 9 = .ok (.i2l, 1) := by decide +kernel
theorem dX12_isCandle_10 : decode cX12_isCandle 10 = .ok (.invokestatic 61, 3) := by decide +kernel
theorem dX12_isCandle_13 : decode cX12_isCandle 13 = .ok (.ireturn, 1) := by decide +kernel
theorem dX12_isCell_0 : decode cX12_isCell 0 = .ok (.iload_n 0, 1) := by decide +kernel
theorem dX12_isCell_1 : decode cX12_isCell 1 = .ok (.i2l, 1) := by decide +kernel
theorem dX12_isCell_2 : decode cX12_isCell 2 = .ok (.lconst 0, 1) := by decide +kernel
theorem dX12_isCell_3 : decode cX12_isCell 3 = .ok (.ldc2_w 65, 3) := by decide +kernel
theorem dX12_isCell_6 : decode cX12_isCell 6 = .ok (.invokestatic 61, 3) := by decide +kernel
theorem dX12_isCell_9 : decode cX12_isCell 9 = .ok (.ireturn, 1) := by decide +kernel
theorem dX12_isHour_0 : decode cX12_isHour 0 = .ok (.iload_n 0, 1) := by decide +kernel
theorem dX12_isHour_1 : decode cX12_isHour 1 = .ok (.i2l, 1) := by decide +kernel
theorem dX12_isHour_2 : decode cX12_isHour 2 = .ok (.lconst 0, 1) := by decide +kernel
theorem dX12_isHour_3 : decode cX12_isHour 3 = .ok (.ldc2_w 67, 3) := by decide +kernel
theorem dX12_isHour_6 : decode cX12_isHour 6 = .ok (.invokestatic 61, 3) := by decide +kernel
theorem dX12_isHour_9 : decode cX12_isHour 9 = .ok (.ireturn, 1) := by decide +kernel
theorem dX12_isOwner_0 : decode cX12_isOwner 0 = .ok (.iload_n 0, 1) := by decide +kernel
theorem dX12_isOwner_1 : decode cX12_isOwner 1 = .ok (.i2l, 1) := by decide +kernel
theorem dX12_isOwner_2 : decode cX12_isOwner 2 = .ok (.lconst 0, 1) := by decide +kernel
theorem dX12_isOwner_3 : decode cX12_isOwner 3 = .ok (.ldc2_w 69, 3) := by decide +kernel
theorem dX12_isOwner_6 : decode cX12_isOwner 6 = .ok (.invokestatic 61, 3) := by decide +kernel
theorem dX12_isOwner_9 : decode cX12_isOwner 9 = .ok (.ireturn, 1) := by decide +kernel
theorem dX12_isLight_0 : decode cX12_isLight 0 = .ok (.iload_n 0, 1) := by decide +kernel
theorem dX12_isLight_1 : decode cX12_isLight 1 = .ok (.i2l, 1) := by decide +kernel
theorem dX12_isLight_2 : decode cX12_isLight 2 = .ok (.lconst 1, 1) := by decide +kernel
theorem dX12_isLight_3 : decode cX12_isLight 3 = .ok (.ldc2_w 71, 3) := by decide +kernel
theorem dX12_isLight_6 : decode cX12_isLight 6 = .ok (.invokestatic 61, 3) := by decide +kernel
theorem dX12_isLight_9 : decode cX12_isLight 9 = .ok (.ireturn, 1) := by decide +kernel
theorem dX12_get_0 : decode cX12_get 0 = .ok (.aload_n 0, 1) := by decide +kernel
theorem dX12_get_1 : decode cX12_get 1 = .ok (.getfield 7, 3) := by decide +kernel
theorem dX12_get_4 : decode cX12_get 4 = .ok (.bipush 6, 2) := by decide +kernel
theorem dX12_get_6 : decode cX12_get 6 = .ok (.iconst 5, 1) := by decide +kernel
theorem dX12_get_7 : decode cX12_get 7 = .ok (.iload_n 1, 1) := by decide +kernel
theorem dX12_get_8 : decode cX12_get 8 = .ok (.imul, 1) := by decide +kernel
theorem dX12_get_9 : decode cX12_get 9 = .ok (.iadd, 1) := by decide +kernel
theorem dX12_get_10 : decode cX12_get 10 = .ok (.iload_n 2, 1) := by decide +kernel
theorem dX12_get_11 : decode cX12_get 11 = .ok (.iadd, 1) := by decide +kernel
theorem dX12_get_12 : decode cX12_get 12 = .ok (.iaload, 1) := by decide +kernel
theorem dX12_get_13 : decode cX12_get 13 = .ok (.ireturn, 1) := by decide +kernel
theorem dX12_valley_0 : decode cX12_valley 0 = .ok (.iload_n 1, 1) := by decide +kernel
theorem dX12_valley_1 : decode cX12_valley 1 = .ok (.i2l, 1) := by decide +kernel
theorem dX12_valley_2 : decode cX12_valley 2 = .ok (.lconst 0, 1) := by decide +kernel
theorem dX12_valley_3 : decode cX12_valley 3 = .ok (.ldc2_w 73, 3) := by decide +kernel
theorem dX12_valley_6 : decode cX12_valley 6 = .ok (.invokestatic 61, 3) := by decide +kernel
theorem dX12_valley_9 : decode cX12_valley 9 = .ok (.ifCond .ne 10, 3) := by decide +kernel
theorem dX12_valley_12 : decode cX12_valley 12 = .ok (.aload_n 0, 1) := by decide +kernel
theorem dX12_valley_13 : decode cX12_valley 13 = .ok (.bipush (-2), 2) := by decide +kernel
theorem dX12_valley_15 : decode cX12_valley 15 = .ok (.invokevirtual 75, 3) := by decide +kernel
theorem dX12_valley_18 : decode cX12_valley 18 = .ok (.ireturn, 1) := by decide +kernel
theorem dX12_valley_19 : decode cX12_valley 19 = .ok (.aload_n 0, 1) := by decide +kernel
theorem dX12_valley_20 : decode cX12_valley 20 = .ok (.invokevirtual 57, 3) := by decide +kernel
theorem dX12_valley_23 : decode cX12_valley 23 = .ok (.istore_n 2, 1) := by decide +kernel
theorem dX12_valley_24 : decode cX12_valley 24 = .ok (.aload_n 0, 1) := by decide +kernel
theorem dX12_valley_25 : decode cX12_valley 25 = .ok (.getfield 7, 3) := by decide +kernel
theorem dX12_valley_28 : decode cX12_valley 28 = .ok (.iload_n 1, 1) := by decide +kernel
theorem dX12_valley_29 : decode cX12_valley 29 = .ok (.invokestatic 79, 3) := by decide +kernel
theorem dX12_valley_32 : decode cX12_valley 32 = .ok (.iload_n 2, 1) := by decide +kernel
theorem dX12_valley_33 : decode cX12_valley 33 = .ok (.ireturn, 1) := by decide +kernel
theorem dX12_fog_0 : decode cX12_fog 0 = .ok (.iload_n 1, 1) := by decide +kernel
theorem dX12_fog_1 : decode cX12_fog 1 = .ok (.i2l, 1) := by decide +kernel
theorem dX12_fog_2 : decode cX12_fog 2 = .ok (.lconst 0, 1) := by decide +kernel
theorem dX12_fog_3 : decode cX12_fog 3 = .ok (.ldc2_w 73, 3) := by decide +kernel
theorem dX12_fog_6 : decode cX12_fog 6 = .ok (.invokestatic 61, 3) := by decide +kernel
theorem dX12_fog_9 : decode cX12_fog 9 = .ok (.ifCond .ne 10, 3) := by decide +kernel
theorem dX12_fog_12 : decode cX12_fog 12 = .ok (.aload_n 0, 1) := by decide +kernel
theorem dX12_fog_13 : decode cX12_fog 13 = .ok (.bipush (-2), 2) := by decide +kernel
theorem dX12_fog_15 : decode cX12_fog 15 = .ok (.invokevirtual 75, 3) := by decide +kernel
theorem dX12_fog_18 : decode cX12_fog 18 = .ok (.ireturn, 1) := by decide +kernel
theorem dX12_fog_19 : decode cX12_fog 19 = .ok (.aload_n 0, 1) := by decide +kernel
theorem dX12_fog_20 : decode cX12_fog 20 = .ok (.getfield 7, 3) := by decide +kernel
theorem dX12_fog_23 : decode cX12_fog 23 = .ok (.iconst 1, 1) := by decide +kernel
theorem dX12_fog_24 : decode cX12_fog 24 = .ok (.iaload, 1) := by decide +kernel
theorem dX12_fog_25 : decode cX12_fog 25 = .ok (.istore_n 2, 1) := by decide +kernel
theorem dX12_fog_26 : decode cX12_fog 26 = .ok (.aload_n 0, 1) := by decide +kernel
theorem dX12_fog_27 : decode cX12_fog 27 = .ok (.getfield 7, 3) := by decide +kernel
theorem dX12_fog_30 : decode cX12_fog 30 = .ok (.iconst 1, 1) := by decide +kernel
theorem dX12_fog_31 : decode cX12_fog 31 = .ok (.iload_n 1, 1) := by decide +kernel
theorem dX12_fog_32 : decode cX12_fog 32 = .ok (.iastore, 1) := by decide +kernel
theorem dX12_fog_33 : decode cX12_fog 33 = .ok (.iload_n 2, 1) := by decide +kernel
theorem dX12_fog_34 : decode cX12_fog 34 = .ok (.ireturn, 1) := by decide +kernel
theorem dX12_layCandle_0 : decode cX12_layCandle 0 = .ok (.bipush 6, 2) := by decide +kernel
theorem dX12_layCandle_2 : decode cX12_layCandle 2 = .ok (.iconst 5, 1) := by decide +kernel
theorem dX12_layCandle_3 : decode cX12_layCandle 3 = .ok (.aload_n 0, 1) := by decide +kernel
theorem dX12_layCandle_4 : decode cX12_layCandle 4 = .ok (.iconst 0, 1) := by decide +kernel
theorem dX12_layCandle_5 : decode cX12_layCandle 5 = .ok (.iaload, 1) := by decide +kernel
theorem dX12_layCandle_6 : decode cX12_layCandle 6 = .ok (.imul, 1) := by decide +kernel
theorem dX12_layCandle_7 : decode cX12_layCandle 7 = .ok (.iadd, 1) := by decide +kernel
theorem dX12_layCandle_8 : decode cX12_layCandle 8 = .ok (.istore 6, 2) := by decide +kernel
theorem dX12_layCandle_10 : decode cX12_layCandle 10 = .ok (.aload_n 0, 1) := by decide +kernel
theorem dX12_layCandle_11 : decode cX12_layCandle 11 = .ok (.iload 6, 2) := by decide +kernel
theorem dX12_layCandle_13 : decode cX12_layCandle 13 = .ok (.iconst 0, 1) := by decide +kernel
theorem dX12_layCandle_14 : decode cX12_layCandle 14 = .ok (.iadd, 1) := by decide +kernel
theorem dX12_layCandle_15 : decode cX12_layCandle 15 = .ok (.iload_n 1, 1) := by decide +kernel
theorem dX12_layCandle_16 : decode cX12_layCandle 16 = .ok (.iastore, 1) := by decide +kernel
theorem dX12_layCandle_17 : decode cX12_layCandle 17 = .ok (.aload_n 0, 1) := by decide +kernel
theorem dX12_layCandle_18 : decode cX12_layCandle 18 = .ok (.iload 6, 2) := by decide +kernel
theorem dX12_layCandle_20 : decode cX12_layCandle 20 = .ok (.iconst 1, 1) := by decide +kernel
theorem dX12_layCandle_21 : decode cX12_layCandle 21 = .ok (.iadd, 1) := by decide +kernel
theorem dX12_layCandle_22 : decode cX12_layCandle 22 = .ok (.iload_n 2, 1) := by decide +kernel
theorem dX12_layCandle_23 : decode cX12_layCandle 23 = .ok (.iastore, 1) := by decide +kernel
theorem dX12_layCandle_24 : decode cX12_layCandle 24 = .ok (.aload_n 0, 1) := by decide +kernel
theorem dX12_layCandle_25 : decode cX12_layCandle 25 = .ok (.iload 6, 2) := by decide +kernel
theorem dX12_layCandle_27 : decode cX12_layCandle 27 = .ok (.iconst 2, 1) := by decide +kernel
theorem dX12_layCandle_28 : decode cX12_layCandle 28 = .ok (.iadd, 1) := by decide +kernel
theorem dX12_layCandle_29 : decode cX12_layCandle 29 = .ok (.iload_n 3, 1) := by decide +kernel
theorem dX12_layCandle_30 : decode cX12_layCandle 30 = .ok (.iastore, 1) := by decide +kernel
theorem dX12_layCandle_31 : decode cX12_layCandle 31 = .ok (.aload_n 0, 1) := by decide +kernel
theorem dX12_layCandle_32 : decode cX12_layCandle 32 = .ok (.iload 6, 2) := by decide +kernel
theorem dX12_layCandle_34 : decode cX12_layCandle 34 = .ok (.iconst 3, 1) := by decide +kernel
theorem dX12_layCandle_35 : decode cX12_layCandle 35 = .ok (.iadd, 1) := by decide +kernel
theorem dX12_layCandle_36 : decode cX12_layCandle 36 = .ok (.iload 4, 2) := by decide +kernel
theorem dX12_layCandle_38 : decode cX12_layCandle 38 = .ok (.iastore, 1) := by decide +kernel
theorem dX12_layCandle_39 : decode cX12_layCandle 39 = .ok (.aload_n 0, 1) := by decide +kernel
theorem dX12_layCandle_40 : decode cX12_layCandle 40 = .ok (.iload 6, 2) := by decide +kernel
theorem dX12_layCandle_42 : decode cX12_layCandle 42 = .ok (.iconst 4, 1) := by decide +kernel
theorem dX12_layCandle_43 : decode cX12_layCandle 43 = .ok (.iadd, 1) := by decide +kernel
theorem dX12_layCandle_44 : decode cX12_layCandle 44 = .ok (.iload 5, 2) := by decide +kernel
theorem dX12_layCandle_46 : decode cX12_layCandle 46 = .ok (.iastore, 1) := by decide +kernel
theorem dX12_layCandle_47 : decode cX12_layCandle 47 = .ok (.aload_n 0, 1) := by decide +kernel
theorem dX12_layCandle_48 : decode cX12_layCandle 48 = .ok (.iconst 2, 1) := by decide +kernel
theorem dX12_layCandle_49 : decode cX12_layCandle 49 = .ok (.dup2, 1) := by decide +kernel
theorem dX12_layCandle_50 : decode cX12_layCandle 50 = .ok (.iaload, 1) := by decide +kernel
theorem dX12_layCandle_51 : decode cX12_layCandle 51 = .ok (.iconst 1, 1) := by decide +kernel
theorem dX12_layCandle_52 : decode cX12_layCandle 52 = .ok (.aload_n 0, 1) := by decide +kernel
theorem dX12_layCandle_53 : decode cX12_layCandle 53 = .ok (.iconst 0, 1) := by decide +kernel
theorem dX12_layCandle_54 : decode cX12_layCandle 54 = .ok (.iaload, 1) := by decide +kernel
theorem dX12_layCandle_55 : decode cX12_layCandle 55 = .ok (.ishl, 1) := by decide +kernel
theorem dX12_layCandle_56 : decode cX12_layCandle 56 = .ok (.ior, 1) := by decide +kernel
theorem dX12_layCandle_57 : decode cX12_layCandle 57 = .ok (.iastore, 1) := by decide +kernel
theorem dX12_layCandle_58 : decode cX12_layCandle 58 = .ok (.aload_n 0, 1) := by decide +kernel
theorem dX12_layCandle_59 : decode cX12_layCandle 59 = .ok (.iconst 0, 1) := by decide +kernel
theorem dX12_layCandle_60 : decode cX12_layCandle 60 = .ok (.dup2, 1) := by decide +kernel
theorem dX12_layCandle_61 : decode cX12_layCandle 61 = .ok (.iaload, 1) := by decide +kernel
theorem dX12_layCandle_62 : decode cX12_layCandle 62 = .ok (.iconst 1, 1) := by decide +kernel
theorem dX12_layCandle_63 : decode cX12_layCandle 63 = .ok (.iadd, 1) := by decide +kernel
theorem dX12_layCandle_64 : decode cX12_layCandle 64 = .ok (.iastore, 1) := by decide +kernel
theorem dX12_layCandle_65 : decode cX12_layCandle 65 = .ok (.return_, 1) := by decide +kernel
theorem dX12_candle_0 : decode cX12_candle 0 = .ok (.iload_n 1, 1) := by decide +kernel
theorem dX12_candle_1 : decode cX12_candle 1 = .ok (.i2l, 1) := by decide +kernel
theorem dX12_candle_2 : decode cX12_candle 2 = .ok (.lconst 0, 1) := by decide +kernel
theorem dX12_candle_3 : decode cX12_candle 3 = .ok (.ldc2_w 83, 3) := by decide +kernel
theorem dX12_candle_6 : decode cX12_candle 6 = .ok (.invokestatic 61, 3) := by decide +kernel
theorem dX12_candle_9 : decode cX12_candle 9 = .ok (.ifCond .eq 38, 3) := by decide +kernel
theorem dX12_candle_12 : decode cX12_candle 12 = .ok (.iload_n 2, 1) := by decide +kernel
theorem dX12_candle_13 : decode cX12_candle 13 = .ok (.invokestatic 85, 3) := by decide +kernel
theorem dX12_candle_16 : decode cX12_candle 16 = .ok (.ifCond .eq 31, 3) := by decide +kernel
theorem dX12_candle_19 : decode cX12_candle 19 = .ok (.iload_n 3, 1) := by decide +kernel
theorem dX12_candle_20 : decode cX12_candle 20 = .ok (.invokestatic 89, 3) := by decide +kernel
theorem dX12_candle_23 : decode cX12_candle 23 = .ok (.ifCond .eq 24, 3) := by decide +kernel
theorem dX12_candle_26 : decode cX12_candle 26 = .ok (.iload 4, 2) := by decide +kernel
theorem dX12_candle_28 : decode cX12_candle 28 = .ok (.invokestatic 92, 3) := by decide +kernel
theorem dX12_candle_31 : decode cX12_candle 31 = .ok (.ifCond .eq 16, 3) := by decide +kernel
theorem dX12_candle_34 : decode cX12_candle 34 = .ok (.iload 5, 2) := by decide +kernel
theorem dX12_candle_36 : decode cX12_candle 36 = .ok (.i2l, 1) := by decide +kernel
theorem dX12_candle_37 : decode cX12_candle 37 = .ok (.lconst 0, 1) := by decide +kernel
theorem dX12_candle_38 : decode cX12_candle 38 = .ok (.ldc2_w 95, 3) := by decide +kernel
theorem dX12_candle_41 : decode cX12_candle 41 = .ok (.invokestatic 61, 3) := by decide +kernel
theorem dX12_candle_44 : decode cX12_candle 44 = .ok (.ifCond .ne 10, 3) := by decide +kernel
theorem dX12_candle_47 : decode cX12_candle 47 = .ok (.aload_n 0, 1) := by decide +kernel
theorem dX12_candle_48 : decode cX12_candle 48 = .ok (.bipush (-2), 2) := by decide +kernel
theorem dX12_candle_50 : decode cX12_candle 50 = .ok (.invokevirtual 75, 3) := by decide +kernel
theorem dX12_candle_53 : decode cX12_candle 53 = .ok (.ireturn, 1) := by decide +kernel
theorem dX12_candle_54 : decode cX12_candle 54 = .ok (.aload_n 0, 1) := by decide +kernel
theorem dX12_candle_55 : decode cX12_candle 55 = .ok (.invokevirtual 57, 3) := by decide +kernel
theorem dX12_candle_58 : decode cX12_candle 58 = .ok (.bipush 7, 2) := by decide +kernel
theorem dX12_candle_60 : decode cX12_candle 60 = .ok (.if_icmp .ne 8, 3) := by decide +kernel
theorem dX12_candle_63 : decode cX12_candle 63 = .ok (.aload_n 0, 1) := by decide +kernel
theorem dX12_candle_64 : decode cX12_candle 64 = .ok (.invokevirtual 97, 3) := by decide +kernel
theorem dX12_candle_67 : decode cX12_candle 67 = .ok (.ireturn, 1) := by decide +kernel
theorem dX12_candle_68 : decode cX12_candle 68 = .ok (.aload_n 0, 1) := by decide +kernel
theorem dX12_candle_69 : decode cX12_candle 69 = .ok (.getfield 7, 3) := by decide +kernel
theorem dX12_candle_72 : decode cX12_candle 72 = .ok (.iload_n 1, 1) := by decide +kernel
theorem dX12_candle_73 : decode cX12_candle 73 = .ok (.iload_n 2, 1) := by decide +kernel
theorem dX12_candle_74 : decode cX12_candle 74 = .ok (.iload_n 3, 1) := by decide +kernel
theorem dX12_candle_75 : decode cX12_candle 75 = .ok (.iload 4, 2) := by decide +kernel
theorem dX12_candle_77 : decode cX12_candle 77 = .ok (.iload 5, 2) := by decide +kernel
theorem dX12_candle_79 : decode cX12_candle 79 = .ok (.invokestatic 100, 3) := by decide +kernel
theorem dX12_candle_82 : decode cX12_candle 82 = .ok (.aload_n 0, 1) := by decide +kernel
theorem dX12_candle_83 : decode cX12_candle 83 = .ok (.getfield 7, 3) := by decide +kernel
theorem dX12_candle_86 : decode cX12_candle 86 = .ok (.iconst 5, 1) := by decide +kernel
theorem dX12_candle_87 : decode cX12_candle 87 = .ok (.iconst 0, 1) := by decide +kernel
theorem dX12_candle_88 : decode cX12_candle 88 = .ok (.iastore, 1) := by decide +kernel
theorem dX12_candle_89 : decode cX12_candle 89 = .ok (.aload_n 0, 1) := by decide +kernel
theorem dX12_candle_90 : decode cX12_candle 90 = .ok (.invokevirtual 57, 3) := by decide +kernel
theorem dX12_candle_93 : decode cX12_candle 93 = .ok (.iconst 1, 1) := by decide +kernel
theorem dX12_candle_94 : decode cX12_candle 94 = .ok (.isub, 1) := by decide +kernel
theorem dX12_candle_95 : decode cX12_candle 95 = .ok (.ireturn, 1) := by decide +kernel
theorem dX12_keep_0 : decode cX12_keep 0 = .ok (.aload_n 0, 1) := by decide +kernel
theorem dX12_keep_1 : decode cX12_keep 1 = .ok (.getfield 7, 3) := by decide +kernel
theorem dX12_keep_4 : decode cX12_keep 4 = .ok (.iconst 5, 1) := by decide +kernel
theorem dX12_keep_5 : decode cX12_keep 5 = .ok (.iaload, 1) := by decide +kernel
theorem dX12_keep_6 : decode cX12_keep 6 = .ok (.bipush 8, 2) := by decide +kernel
theorem dX12_keep_8 : decode cX12_keep 8 = .ok (.if_icmp .ne 43, 3) := by decide +kernel
theorem dX12_keep_11 : decode cX12_keep 11 = .ok (.iconst 0, 1) := by decide +kernel
theorem dX12_keep_12 : decode cX12_keep 12 = .ok (.istore_n 1, 1) := by decide +kernel
theorem dX12_keep_13 : decode cX12_keep 13 = .ok (.iload_n 1, 1) := by decide +kernel
theorem dX12_keep_14 : decode cX12_keep 14 = .ok (.bipush 56, 2) := by decide +kernel
theorem dX12_keep_16 : decode cX12_keep 16 = .ok (.if_icmp .ge 27, 3) := by decide +kernel
theorem dX12_keep_19 : decode cX12_keep 19 = .ok (.aload_n 0, 1) := by decide +kernel
theorem dX12_keep_20 : decode cX12_keep 20 = .ok (.getfield 7, 3) := by decide +kernel
theorem dX12_keep_23 : decode cX12_keep 23 = .ok (.bipush 65, 2) := by decide +kernel
theorem dX12_keep_25 : decode cX12_keep 25 = .ok (.iload_n 1, 1) := by decide +kernel
theorem dX12_keep_26 : decode cX12_keep 26 = .ok (.iadd, 1) := by decide +kernel
theorem dX12_keep_27 : decode cX12_keep 27 = .ok (.aload_n 0, 1) := by decide +kernel
theorem dX12_keep_28 : decode cX12_keep 28 = .ok (.getfield 7, 3) := by decide +kernel
theorem dX12_keep_31 : decode cX12_keep 31 = .ok (.bipush 73, 2) := by decide +kernel
theorem dX12_keep_33 : decode cX12_keep 33 = .ok (.iload_n 1, 1) := by decide +kernel
theorem dX12_keep_34 : decode cX12_keep 34 = .ok (.iadd, 1) := by decide +kernel
theorem dX12_keep_35 : decode cX12_keep 35 = .ok (.iaload, 1) := by decide +kernel
theorem dX12_keep_36 : decode cX12_keep 36 = .ok (.iastore, 1) := by decide +kernel
theorem dX12_keep_37 : decode cX12_keep 37 = .ok (.iinc 1 1, 3) := by decide +kernel
theorem dX12_keep_40 : decode cX12_keep 40 = .ok (.goto (-27), 3) := by decide +kernel
theorem dX12_keep_43 : decode cX12_keep 43 = .ok (.aload_n 0, 1) := by decide +kernel
theorem dX12_keep_44 : decode cX12_keep 44 = .ok (.getfield 7, 3) := by decide +kernel
theorem dX12_keep_47 : decode cX12_keep 47 = .ok (.iconst 5, 1) := by decide +kernel
theorem dX12_keep_48 : decode cX12_keep 48 = .ok (.bipush 7, 2) := by decide +kernel
theorem dX12_keep_50 : decode cX12_keep 50 = .ok (.iastore, 1) := by decide +kernel
theorem dX12_keep_51 : decode cX12_keep 51 = .ok (.bipush 65, 2) := by decide +kernel
theorem dX12_keep_53 : decode cX12_keep 53 = .ok (.bipush 8, 2) := by decide +kernel
theorem dX12_keep_55 : decode cX12_keep 55 = .ok (.aload_n 0, 1) := by decide +kernel
theorem dX12_keep_56 : decode cX12_keep 56 = .ok (.getfield 7, 3) := by decide +kernel
theorem dX12_keep_59 : decode cX12_keep 59 = .ok (.iconst 5, 1) := by decide +kernel
theorem dX12_keep_60 : decode cX12_keep 60 = .ok (.iaload, 1) := by decide +kernel
theorem dX12_keep_61 : decode cX12_keep 61 = .ok (.imul, 1) := by decide +kernel
theorem dX12_keep_62 : decode cX12_keep 62 = .ok (.iadd, 1) := by decide +kernel
theorem dX12_keep_63 : decode cX12_keep 63 = .ok (.istore_n 1, 1) := by decide +kernel
theorem dX12_keep_64 : decode cX12_keep 64 = .ok (.iconst 0, 1) := by decide +kernel
theorem dX12_keep_65 : decode cX12_keep 65 = .ok (.istore_n 2, 1) := by decide +kernel
theorem dX12_keep_66 : decode cX12_keep 66 = .ok (.iload_n 2, 1) := by decide +kernel
theorem dX12_keep_67 : decode cX12_keep 67 = .ok (.bipush 7, 2) := by decide +kernel
theorem dX12_keep_69 : decode cX12_keep 69 = .ok (.if_icmp .ge 23, 3) := by decide +kernel
theorem dX12_keep_72 : decode cX12_keep 72 = .ok (.aload_n 0, 1) := by decide +kernel
theorem dX12_keep_73 : decode cX12_keep 73 = .ok (.getfield 7, 3) := by decide +kernel
theorem dX12_keep_76 : decode cX12_keep 76 = .ok (.iload_n 1, 1) := by decide +kernel
theorem dX12_keep_77 : decode cX12_keep 77 = .ok (.iload_n 2, 1) := by decide +kernel
theorem dX12_keep_78 : decode cX12_keep 78 = .ok (.iadd, 1) := by decide +kernel
theorem dX12_keep_79 : decode cX12_keep 79 = .ok (.aload_n 0, 1) := by decide +kernel
theorem dX12_keep_80 : decode cX12_keep 80 = .ok (.iload_n 2, 1) := by decide +kernel
theorem dX12_keep_81 : decode cX12_keep 81 = .ok (.iconst 1, 1) := by decide +kernel
theorem dX12_keep_82 : decode cX12_keep 82 = .ok (.invokevirtual 104, 3) := by decide +kernel
theorem dX12_keep_85 : decode cX12_keep 85 = .ok (.iastore, 1) := by decide +kernel
theorem dX12_keep_86 : decode cX12_keep 86 = .ok (.iinc 2 1, 3) := by decide +kernel
theorem dX12_keep_89 : decode cX12_keep 89 = .ok (.goto (-23), 3) := by decide +kernel
theorem dX12_keep_92 : decode cX12_keep 92 = .ok (.aload_n 0, 1) := by decide +kernel
theorem dX12_keep_93 : decode cX12_keep 93 = .ok (.getfield 7, 3) := by decide +kernel
theorem dX12_keep_96 : decode cX12_keep 96 = .ok (.iload_n 1, 1) := by decide +kernel
theorem dX12_keep_97 : decode cX12_keep 97 = .ok (.bipush 7, 2) := by decide +kernel
theorem dX12_keep_99 : decode cX12_keep 99 = .ok (.iadd, 1) := by decide +kernel
theorem dX12_keep_100 : decode cX12_keep 100 = .ok (.aload_n 0, 1) := by decide +kernel
theorem dX12_keep_101 : decode cX12_keep 101 = .ok (.getfield 7, 3) := by decide +kernel
theorem dX12_keep_104 : decode cX12_keep 104 = .ok (.iconst 2, 1) := by decide +kernel
theorem dX12_keep_105 : decode cX12_keep 105 = .ok (.iaload, 1) := by decide +kernel
theorem dX12_keep_106 : decode cX12_keep 106 = .ok (.iastore, 1) := by decide +kernel
theorem dX12_keep_107 : decode cX12_keep 107 = .ok (.aload_n 0, 1) := by decide +kernel
theorem dX12_keep_108 : decode cX12_keep 108 = .ok (.getfield 7, 3) := by decide +kernel
theorem dX12_keep_111 : decode cX12_keep 111 = .ok (.iconst 5, 1) := by decide +kernel
theorem dX12_keep_112 : decode cX12_keep 112 = .ok (.dup2, 1) := by decide +kernel
theorem dX12_keep_113 : decode cX12_keep 113 = .ok (.iaload, 1) := by decide +kernel
theorem dX12_keep_114 : decode cX12_keep 114 = .ok (.iconst 1, 1) := by decide +kernel
theorem dX12_keep_115 : decode cX12_keep 115 = .ok (.iadd, 1) := by decide +kernel
theorem dX12_keep_116 : decode cX12_keep 116 = .ok (.iastore, 1) := by decide +kernel
theorem dX12_keep_117 : decode cX12_keep 117 = .ok (.return_, 1) := by decide +kernel
theorem dX12_move_0 : decode cX12_move 0 = .ok (.aload_n 0, 1) := by decide +kernel
theorem dX12_move_1 : decode cX12_move 1 = .ok (.iload_n 1, 1) := by decide +kernel
theorem dX12_move_2 : decode cX12_move 2 = .ok (.invokevirtual 108, 3) := by decide +kernel
theorem dX12_move_5 : decode cX12_move 5 = .ok (.ifCond .eq 10, 3) := by decide +kernel
theorem dX12_move_8 : decode cX12_move 8 = .ok (.iload_n 2, 1) := by decide +kernel
theorem dX12_move_9 : decode cX12_move 9 = .ok (.invokestatic 85, 3) := by decide +kernel
theorem dX12_move_12 : decode cX12_move 12 = .ok (.ifCond .ne 10, 3) := by decide +kernel
theorem dX12_move_15 : decode cX12_move 15 = .ok (.aload_n 0, 1) := by decide +kernel
theorem dX12_move_16 : decode cX12_move 16 = .ok (.bipush (-2), 2) := by decide +kernel
theorem dX12_move_18 : decode cX12_move 18 = .ok (.invokevirtual 75, 3) := by decide +kernel
theorem dX12_move_21 : decode cX12_move 21 = .ok (.ireturn, 1) := by decide +kernel
theorem dX12_move_22 : decode cX12_move 22 = .ok (.aload_n 0, 1) := by decide +kernel
theorem dX12_move_23 : decode cX12_move 23 = .ok (.iload_n 1, 1) := by decide +kernel
theorem dX12_move_24 : decode cX12_move 24 = .ok (.iconst 1, 1) := by decide +kernel
theorem dX12_move_25 : decode cX12_move 25 = .ok (.invokevirtual 104, 3) := by decide +kernel
theorem dX12_move_28 : decode cX12_move 28 = .ok (.istore_n 3, 1) := by decide +kernel
theorem dX12_move_29 : decode cX12_move 29 = .ok (.aload_n 0, 1) := by decide +kernel
theorem dX12_move_30 : decode cX12_move 30 = .ok (.invokevirtual 111, 3) := by decide +kernel
theorem dX12_move_33 : decode cX12_move 33 = .ok (.aload_n 0, 1) := by decide +kernel
theorem dX12_move_34 : decode cX12_move 34 = .ok (.getfield 7, 3) := by decide +kernel
theorem dX12_move_37 : decode cX12_move 37 = .ok (.bipush 6, 2) := by decide +kernel
theorem dX12_move_39 : decode cX12_move 39 = .ok (.iconst 5, 1) := by decide +kernel
theorem dX12_move_40 : decode cX12_move 40 = .ok (.iload_n 1, 1) := by decide +kernel
theorem dX12_move_41 : decode cX12_move 41 = .ok (.imul, 1) := by decide +kernel
theorem dX12_move_42 : decode cX12_move 42 = .ok (.iadd, 1) := by decide +kernel
theorem dX12_move_43 : decode cX12_move 43 = .ok (.iconst 1, 1) := by decide +kernel
theorem dX12_move_44 : decode cX12_move 44 = .ok (.iadd, 1) := by decide +kernel
theorem dX12_move_45 : decode cX12_move 45 = .ok (.iload_n 2, 1) := by decide +kernel
theorem dX12_move_46 : decode cX12_move 46 = .ok (.iastore, 1) := by decide +kernel
theorem dX12_move_47 : decode cX12_move 47 = .ok (.iload_n 3, 1) := by decide +kernel
theorem dX12_move_48 : decode cX12_move 48 = .ok (.ireturn, 1) := by decide +kernel
theorem dX12_light_0 : decode cX12_light 0 = .ok (.aload_n 0, 1) := by decide +kernel
theorem dX12_light_1 : decode cX12_light 1 = .ok (.iload_n 1, 1) := by decide +kernel
theorem dX12_light_2 : decode cX12_light 2 = .ok (.invokevirtual 108, 3) := by decide +kernel
theorem dX12_light_5 : decode cX12_light 5 = .ok (.ifCond .eq 13, 3) := by decide +kernel
theorem dX12_light_8 : decode cX12_light 8 = .ok (.iload_n 2, 1) := by decide +kernel
theorem dX12_light_9 : decode cX12_light 9 = .ok (.i2l, 1) := by decide +kernel
theorem dX12_light_10 : decode cX12_light 10 = .ok (.lconst 0, 1) := by decide +kernel
theorem dX12_light_11 : decode cX12_light 11 = .ok (.lconst 1, 1) := by decide +kernel
theorem dX12_light_12 : decode cX12_light 12 = .ok (.invokestatic 61, 3) := by decide +kernel
theorem dX12_light_15 : decode cX12_light 15 = .ok (.ifCond .ne 10, 3) := by decide +kernel
theorem dX12_light_18 : decode cX12_light 18 = .ok (.aload_n 0, 1) := by decide +kernel
theorem dX12_light_19 : decode cX12_light 19 = .ok (.bipush (-2), 2) := by decide +kernel
theorem dX12_light_21 : decode cX12_light 21 = .ok (.invokevirtual 75, 3) := by decide +kernel
theorem dX12_light_24 : decode cX12_light 24 = .ok (.ireturn, 1) := by decide +kernel
theorem dX12_light_25 : decode cX12_light 25 = .ok (.aload_n 0, 1) := by decide +kernel
theorem dX12_light_26 : decode cX12_light 26 = .ok (.getfield 7, 3) := by decide +kernel
theorem dX12_light_29 : decode cX12_light 29 = .ok (.iconst 2, 1) := by decide +kernel
theorem dX12_light_30 : decode cX12_light 30 = .ok (.iaload, 1) := by decide +kernel
theorem dX12_light_31 : decode cX12_light 31 = .ok (.iload_n 1, 1) := by decide +kernel
theorem dX12_light_32 : decode cX12_light 32 = .ok (.ishr, 1) := by decide +kernel
theorem dX12_light_33 : decode cX12_light 33 = .ok (.iconst 1, 1) := by decide +kernel
theorem dX12_light_34 : decode cX12_light 34 = .ok (.iand, 1) := by decide +kernel
theorem dX12_light_35 : decode cX12_light 35 = .ok (.iload_n 2, 1) := by decide +kernel
theorem dX12_light_36 : decode cX12_light 36 = .ok (.if_icmp .ne 8, 3) := by decide +kernel
theorem dX12_light_39 : decode cX12_light 39 = .ok (.aload_n 0, 1) := by decide +kernel
theorem dX12_light_40 : decode cX12_light 40 = .ok (.invokevirtual 114, 3) := by decide +kernel
theorem dX12_light_43 : decode cX12_light 43 = .ok (.ireturn, 1) := by decide +kernel
theorem dX12_light_44 : decode cX12_light 44 = .ok (.aload_n 0, 1) := by decide +kernel
theorem dX12_light_45 : decode cX12_light 45 = .ok (.invokevirtual 111, 3) := by decide +kernel
theorem dX12_light_48 : decode cX12_light 48 = .ok (.aload_n 0, 1) := by decide +kernel
theorem dX12_light_49 : decode cX12_light 49 = .ok (.getfield 7, 3) := by decide +kernel
theorem dX12_light_52 : decode cX12_light 52 = .ok (.iconst 2, 1) := by decide +kernel
theorem dX12_light_53 : decode cX12_light 53 = .ok (.dup2, 1) := by decide +kernel
theorem dX12_light_54 : decode cX12_light 54 = .ok (.iaload, 1) := by decide +kernel
theorem dX12_light_55 : decode cX12_light 55 = .ok (.iconst 1, 1) := by decide +kernel
theorem dX12_light_56 : decode cX12_light 56 = .ok (.iload_n 1, 1) := by decide +kernel
theorem dX12_light_57 : decode cX12_light 57 = .ok (.ishl, 1) := by decide +kernel
theorem dX12_light_58 : decode cX12_light 58 = .ok (.ixor, 1) := by decide +kernel
theorem dX12_light_59 : decode cX12_light 59 = .ok (.iastore, 1) := by decide +kernel
theorem dX12_light_60 : decode cX12_light 60 = .ok (.iconst 1, 1) := by decide +kernel
theorem dX12_light_61 : decode cX12_light 61 = .ok (.ireturn, 1) := by decide +kernel
theorem dX12_undo_0 : decode cX12_undo 0 = .ok (.aload_n 0, 1) := by decide +kernel
theorem dX12_undo_1 : decode cX12_undo 1 = .ok (.getfield 7, 3) := by decide +kernel
theorem dX12_undo_4 : decode cX12_undo 4 = .ok (.iconst 5, 1) := by decide +kernel
theorem dX12_undo_5 : decode cX12_undo 5 = .ok (.iaload, 1) := by decide +kernel
theorem dX12_undo_6 : decode cX12_undo 6 = .ok (.ifCond .ne 8, 3) := by decide +kernel
theorem dX12_undo_9 : decode cX12_undo 9 = .ok (.aload_n 0, 1) := by decide +kernel
theorem dX12_undo_10 : decode cX12_undo 10 = .ok (.invokevirtual 114, 3) := by decide +kernel
theorem dX12_undo_13 : decode cX12_undo 13 = .ok (.ireturn, 1) := by decide +kernel
theorem dX12_undo_14 : decode cX12_undo 14 = .ok (.aload_n 0, 1) := by decide +kernel
theorem dX12_undo_15 : decode cX12_undo 15 = .ok (.getfield 7, 3) := by decide +kernel
theorem dX12_undo_18 : decode cX12_undo 18 = .ok (.iconst 5, 1) := by decide +kernel
theorem dX12_undo_19 : decode cX12_undo 19 = .ok (.dup2, 1) := by decide +kernel
theorem dX12_undo_20 : decode cX12_undo 20 = .ok (.iaload, 1) := by decide +kernel
theorem dX12_undo_21 : decode cX12_undo 21 = .ok (.iconst 1, 1) := by decide +kernel
theorem dX12_undo_22 : decode cX12_undo 22 = .ok (.isub, 1) := by decide +kernel
theorem dX12_undo_23 : decode cX12_undo 23 = .ok (.iastore, 1) := by decide +kernel
theorem dX12_undo_24 : decode cX12_undo 24 = .ok (.bipush 65, 2) := by decide +kernel
theorem dX12_undo_26 : decode cX12_undo 26 = .ok (.bipush 8, 2) := by decide +kernel
theorem dX12_undo_28 : decode cX12_undo 28 = .ok (.aload_n 0, 1) := by decide +kernel
theorem dX12_undo_29 : decode cX12_undo 29 = .ok (.getfield 7, 3) := by decide +kernel
theorem dX12_undo_32 : decode cX12_undo 32 = .ok (.iconst 5, 1) := by decide +kernel
theorem dX12_undo_33 : decode cX12_undo 33 = .ok (.iaload, 1) := by decide +kernel
theorem dX12_undo_34 : decode cX12_undo 34 = .ok (.imul, 1) := by decide +kernel
theorem dX12_undo_35 : decode cX12_undo 35 = .ok (.iadd, 1) := by decide +kernel
theorem dX12_undo_36 : decode cX12_undo 36 = .ok (.istore_n 1, 1) := by decide +kernel
theorem dX12_undo_37 : decode cX12_undo 37 = .ok (.iconst 0, 1) := by decide +kernel
theorem dX12_undo_38 : decode cX12_undo 38 = .ok (.istore_n 2, 1) := by decide +kernel
theorem dX12_undo_39 : decode cX12_undo 39 = .ok (.iload_n 2, 1) := by decide +kernel
theorem dX12_undo_40 : decode cX12_undo 40 = .ok (.bipush 7, 2) := by decide +kernel
theorem dX12_undo_42 : decode cX12_undo 42 = .ok (.if_icmp .ge 30, 3) := by decide +kernel
theorem dX12_undo_45 : decode cX12_undo 45 = .ok (.aload_n 0, 1) := by decide +kernel
theorem dX12_undo_46 : decode cX12_undo 46 = .ok (.getfield 7, 3) := by decide +kernel
theorem dX12_undo_49 : decode cX12_undo 49 = .ok (.bipush 6, 2) := by decide +kernel
theorem dX12_undo_51 : decode cX12_undo 51 = .ok (.iconst 5, 1) := by decide +kernel
theorem dX12_undo_52 : decode cX12_undo 52 = .ok (.iload_n 2, 1) := by decide +kernel
theorem dX12_undo_53 : decode cX12_undo 53 = .ok (.imul, 1) := by decide +kernel
theorem dX12_undo_54 : decode cX12_undo 54 = .ok (.iadd, 1) := by decide +kernel
theorem dX12_undo_55 : decode cX12_undo 55 = .ok (.iconst 1, 1) := by decide +kernel
theorem dX12_undo_56 : decode cX12_undo 56 = .ok (.iadd, 1) := by decide +kernel
theorem dX12_undo_57 : decode cX12_undo 57 = .ok (.aload_n 0, 1) := by decide +kernel
theorem dX12_undo_58 : decode cX12_undo 58 = .ok (.getfield 7, 3) := by decide +kernel
theorem dX12_undo_61 : decode cX12_undo 61 = .ok (.iload_n 1, 1) := by decide +kernel
theorem dX12_undo_62 : decode cX12_undo 62 = .ok (.iload_n 2, 1) := by decide +kernel
theorem dX12_undo_63 : decode cX12_undo 63 = .ok (.iadd, 1) := by decide +kernel
theorem dX12_undo_64 : decode cX12_undo 64 = .ok (.iaload, 1) := by decide +kernel
theorem dX12_undo_65 : decode cX12_undo 65 = .ok (.iastore, 1) := by decide +kernel
theorem dX12_undo_66 : decode cX12_undo 66 = .ok (.iinc 2 1, 3) := by decide +kernel
theorem dX12_undo_69 : decode cX12_undo 69 = .ok (.goto (-30), 3) := by decide +kernel
theorem dX12_undo_72 : decode cX12_undo 72 = .ok (.aload_n 0, 1) := by decide +kernel
theorem dX12_undo_73 : decode cX12_undo 73 = .ok (.getfield 7, 3) := by decide +kernel
theorem dX12_undo_76 : decode cX12_undo 76 = .ok (.iconst 2, 1) := by decide +kernel
theorem dX12_undo_77 : decode cX12_undo 77 = .ok (.aload_n 0, 1) := by decide +kernel
theorem dX12_undo_78 : decode cX12_undo 78 = .ok (.getfield 7, 3) := by decide +kernel
theorem dX12_undo_81 : decode cX12_undo 81 = .ok (.iload_n 1, 1) := by decide +kernel
theorem dX12_undo_82 : decode cX12_undo 82 = .ok (.bipush 7, 2) := by decide +kernel
theorem dX12_undo_84 : decode cX12_undo 84 = .ok (.iadd, 1) := by decide +kernel
theorem dX12_undo_85 : decode cX12_undo 85 = .ok (.iaload, 1) := by decide +kernel
theorem dX12_undo_86 : decode cX12_undo 86 = .ok (.iastore, 1) := by decide +kernel
theorem dX12_undo_87 : decode cX12_undo 87 = .ok (.aload_n 0, 1) := by decide +kernel
theorem dX12_undo_88 : decode cX12_undo 88 = .ok (.getfield 7, 3) := by decide +kernel
theorem dX12_undo_91 : decode cX12_undo 91 = .ok (.iconst 2, 1) := by decide +kernel
theorem dX12_undo_92 : decode cX12_undo 92 = .ok (.iaload, 1) := by decide +kernel
theorem dX12_undo_93 : decode cX12_undo 93 = .ok (.ireturn, 1) := by decide +kernel
theorem dX12_plain_0 : decode cX12_plain 0 = .ok (.iload_n 0, 1) := by decide +kernel
theorem dX12_plain_1 : decode cX12_plain 1 = .ok (.iload_n 1, 1) := by decide +kernel
theorem dX12_plain_2 : decode cX12_plain 2 = .ok (.if_icmp .le 9, 3) := by decide +kernel
theorem dX12_plain_5 : decode cX12_plain 5 = .ok (.iload_n 0, 1) := by decide +kernel
theorem dX12_plain_6 : decode cX12_plain 6 = .ok (.iload_n 1, 1) := by decide +kernel
theorem dX12_plain_7 : decode cX12_plain 7 = .ok (.isub, 1) := by decide +kernel
theorem dX12_plain_8 : decode cX12_plain 8 = .ok (.goto 4, 3) := by decide +kernel
theorem dX12_plain_11 : decode cX12_plain 11 = .ok (.iconst 0, 1) := by decide +kernel
theorem dX12_plain_12 : decode cX12_plain 12 = .ok (.ireturn, 1) := by decide +kernel
theorem dX12_wick_0 : decode cX12_wick 0 = .ok (.iload_n 0, 1) := by decide +kernel
theorem dX12_wick_1 : decode cX12_wick 1 = .ok (.iload_n 1, 1) := by decide +kernel
theorem dX12_wick_2 : decode cX12_wick 2 = .ok (.if_icmp .le 11, 3) := by decide +kernel
theorem dX12_wick_5 : decode cX12_wick 5 = .ok (.iload_n 0, 1) := by decide +kernel
theorem dX12_wick_6 : decode cX12_wick 6 = .ok (.iload_n 1, 1) := by decide +kernel
theorem dX12_wick_7 : decode cX12_wick 7 = .ok (.isub, 1) := by decide +kernel
theorem dX12_wick_8 : decode cX12_wick 8 = .ok (.iconst 3, 1) := by decide +kernel
theorem dX12_wick_9 : decode cX12_wick 9 = .ok (.iadd, 1) := by decide +kernel
theorem dX12_wick_10 : decode cX12_wick 10 = .ok (.goto 4, 3) := by decide +kernel
theorem dX12_wick_13 : decode cX12_wick 13 = .ok (.iconst 0, 1) := by decide +kernel
theorem dX12_wick_14 : decode cX12_wick 14 = .ok (.ireturn, 1) := by decide +kernel
theorem dX12_strength_0 : decode cX12_strength 0 = .ok (.iload_n 0, 1) := by decide +kernel
theorem dX12_strength_1 : decode cX12_strength 1 = .ok (.tableswitch 77 1 5 #[35, 41, 41, 58, 66], 35) := by decide +kernel
theorem dX12_strength_36 : decode cX12_strength 36 = .ok (.iload_n 1, 1) := by decide +kernel
theorem dX12_strength_37 : decode cX12_strength 37 = .ok (.iload_n 2, 1) := by decide +kernel
theorem dX12_strength_38 : decode cX12_strength 38 = .ok (.invokestatic 117, 3) := by decide +kernel
theorem dX12_strength_41 : decode cX12_strength 41 = .ok (.ireturn, 1) := by decide +kernel
theorem dX12_strength_42 : decode cX12_strength 42 = .ok (.iload_n 1, 1) := by decide +kernel
theorem dX12_strength_43 : decode cX12_strength 43 = .ok (.iload_n 2, 1) := by decide +kernel
theorem dX12_strength_44 : decode cX12_strength 44 = .ok (.iconst 2, 1) := by decide +kernel
theorem dX12_strength_45 : decode cX12_strength 45 = .ok (.if_icmp .le 9, 3) := by decide +kernel
theorem dX12_strength_48 : decode cX12_strength 48 = .ok (.iload_n 2, 1) := by decide +kernel
theorem dX12_strength_49 : decode cX12_strength 49 = .ok (.iconst 2, 1) := by decide +kernel
theorem dX12_strength_50 : decode cX12_strength 50 = .ok (.isub, 1) := by decide +kernel
theorem dX12_strength_51 : decode cX12_strength 51 = .ok (.goto 4, 3) := by decide +kernel
theorem dX12_strength_54 : decode cX12_strength 54 = .ok (.iconst 0, 1) := by decide +kernel
theorem dX12_strength_55 : decode cX12_strength 55 = .ok (.invokestatic 120, 3) := by decide +kernel
theorem dX12_strength_58 : decode cX12_strength 58 = .ok (.ireturn, 1) := by decide +kernel
theorem dX12_strength_59 : decode cX12_strength 59 = .ok (.iload_n 1, 1) := by decide +kernel
theorem dX12_strength_60 : decode cX12_strength 60 = .ok (.iload_n 2, 1) := by decide +kernel
theorem dX12_strength_61 : decode cX12_strength 61 = .ok (.invokestatic 117, 3) := by decide +kernel
theorem dX12_strength_64 : decode cX12_strength 64 = .ok (.iconst 2, 1) := by decide +kernel
theorem dX12_strength_65 : decode cX12_strength 65 = .ok (.idiv, 1) := by decide +kernel
theorem dX12_strength_66 : decode cX12_strength 66 = .ok (.ireturn, 1) := by decide +kernel
theorem dX12_strength_67 : decode cX12_strength 67 = .ok (.iload_n 1, 1) := by decide +kernel
theorem dX12_strength_68 : decode cX12_strength 68 = .ok (.iload_n 2, 1) := by decide +kernel
theorem dX12_strength_69 : decode cX12_strength 69 = .ok (.if_icmp .le 7, 3) := by decide +kernel
theorem dX12_strength_72 : decode cX12_strength 72 = .ok (.iconst 1, 1) := by decide +kernel
theorem dX12_strength_73 : decode cX12_strength 73 = .ok (.goto 4, 3) := by decide +kernel
theorem dX12_strength_76 : decode cX12_strength 76 = .ok (.iconst 0, 1) := by decide +kernel
theorem dX12_strength_77 : decode cX12_strength 77 = .ok (.ireturn, 1) := by decide +kernel
theorem dX12_strength_78 : decode cX12_strength 78 = .ok (.iload_n 1, 1) := by decide +kernel
theorem dX12_strength_79 : decode cX12_strength 79 = .ok (.iload_n 2, 1) := by decide +kernel
theorem dX12_strength_80 : decode cX12_strength 80 = .ok (.invokestatic 120, 3) := by decide +kernel
theorem dX12_strength_83 : decode cX12_strength 83 = .ok (.ireturn, 1) := by decide +kernel
theorem dX12_burnsFor_0 : decode cX12_burnsFor 0 = .ok (.iload_n 0, 1) := by decide +kernel
theorem dX12_burnsFor_1 : decode cX12_burnsFor 1 = .ok (.iconst 1, 1) := by decide +kernel
theorem dX12_burnsFor_2 : decode cX12_burnsFor 2 = .ok (.if_icmp .ne 9, 3) := by decide +kernel
theorem dX12_burnsFor_5 : decode cX12_burnsFor 5 = .ok (.iload_n 1, 1) := by decide +kernel
theorem dX12_burnsFor_6 : decode cX12_burnsFor 6 = .ok (.iconst 2, 1) := by decide +kernel
theorem dX12_burnsFor_7 : decode cX12_burnsFor 7 = .ok (.idiv, 1) := by decide +kernel
theorem dX12_burnsFor_8 : decode cX12_burnsFor 8 = .ok (.goto 38, 3) := by decide +kernel
theorem dX12_burnsFor_11 : decode cX12_burnsFor 11 = .ok (.iload_n 0, 1) := by decide +kernel
theorem dX12_burnsFor_12 : decode cX12_burnsFor 12 = .ok (.iconst 3, 1) := by decide +kernel
theorem dX12_burnsFor_13 : decode cX12_burnsFor 13 = .ok (.if_icmp .ne 9, 3) := by decide +kernel
theorem dX12_burnsFor_16 : decode cX12_burnsFor 16 = .ok (.iconst 2, 1) := by decide +kernel
theorem dX12_burnsFor_17 : decode cX12_burnsFor 17 = .ok (.iload_n 1, 1) := by decide +kernel
theorem dX12_burnsFor_18 : decode cX12_burnsFor 18 = .ok (.imul, 1) := by decide +kernel
theorem dX12_burnsFor_19 : decode cX12_burnsFor 19 = .ok (.goto 27, 3) := by decide +kernel
theorem dX12_burnsFor_22 : decode cX12_burnsFor 22 = .ok (.iload_n 0, 1) := by decide +kernel
theorem dX12_burnsFor_23 : decode cX12_burnsFor 23 = .ok (.iconst 4, 1) := by decide +kernel
theorem dX12_burnsFor_24 : decode cX12_burnsFor 24 = .ok (.if_icmp .ne 11, 3) := by decide +kernel
theorem dX12_burnsFor_27 : decode cX12_burnsFor 27 = .ok (.iload_n 1, 1) := by decide +kernel
theorem dX12_burnsFor_28 : decode cX12_burnsFor 28 = .ok (.iconst 2, 1) := by decide +kernel
theorem dX12_burnsFor_29 : decode cX12_burnsFor 29 = .ok (.idiv, 1) := by decide +kernel
theorem dX12_burnsFor_30 : decode cX12_burnsFor 30 = .ok (.iconst 2, 1) := by decide +kernel
theorem dX12_burnsFor_31 : decode cX12_burnsFor 31 = .ok (.iadd, 1) := by decide +kernel
theorem dX12_burnsFor_32 : decode cX12_burnsFor 32 = .ok (.goto 14, 3) := by decide +kernel
theorem dX12_burnsFor_35 : decode cX12_burnsFor 35 = .ok (.iload_n 0, 1) := by decide +kernel
theorem dX12_burnsFor_36 : decode cX12_burnsFor 36 = .ok (.iconst 5, 1) := by decide +kernel
theorem dX12_burnsFor_37 : decode cX12_burnsFor 37 = .ok (.if_icmp .ne 8, 3) := by decide +kernel
theorem dX12_burnsFor_40 : decode cX12_burnsFor 40 = .ok (.bipush 12, 2) := by decide +kernel
theorem dX12_burnsFor_42 : decode cX12_burnsFor 42 = .ok (.goto 4, 3) := by decide +kernel
theorem dX12_burnsFor_45 : decode cX12_burnsFor 45 = .ok (.iload_n 1, 1) := by decide +kernel
theorem dX12_burnsFor_46 : decode cX12_burnsFor 46 = .ok (.ireturn, 1) := by decide +kernel
theorem dX12_apart_0 : decode cX12_apart 0 = .ok (.iload_n 0, 1) := by decide +kernel
theorem dX12_apart_1 : decode cX12_apart 1 = .ok (.iload_n 1, 1) := by decide +kernel
theorem dX12_apart_2 : decode cX12_apart 2 = .ok (.if_icmp .le 9, 3) := by decide +kernel
theorem dX12_apart_5 : decode cX12_apart 5 = .ok (.iload_n 0, 1) := by decide +kernel
theorem dX12_apart_6 : decode cX12_apart 6 = .ok (.iload_n 1, 1) := by decide +kernel
theorem dX12_apart_7 : decode cX12_apart 7 = .ok (.isub, 1) := by decide +kernel
theorem dX12_apart_8 : decode cX12_apart 8 = .ok (.goto 6, 3) := by decide +kernel
theorem dX12_apart_11 : decode cX12_apart 11 = .ok (.iload_n 1, 1) := by decide +kernel
theorem dX12_apart_12 : decode cX12_apart 12 = .ok (.iload_n 0, 1) := by decide +kernel
theorem dX12_apart_13 : decode cX12_apart 13 = .ok (.isub, 1) := by decide +kernel
theorem dX12_apart_14 : decode cX12_apart 14 = .ok (.ireturn, 1) := by decide +kernel
theorem dX12_far_0 : decode cX12_far 0 = .ok (.iload_n 0, 1) := by decide +kernel
theorem dX12_far_1 : decode cX12_far 1 = .ok (.bipush 8, 2) := by decide +kernel
theorem dX12_far_3 : decode cX12_far 3 = .ok (.irem, 1) := by decide +kernel
theorem dX12_far_4 : decode cX12_far 4 = .ok (.iload_n 1, 1) := by decide +kernel
theorem dX12_far_5 : decode cX12_far 5 = .ok (.bipush 8, 2) := by decide +kernel
theorem dX12_far_7 : decode cX12_far 7 = .ok (.irem, 1) := by decide +kernel
theorem dX12_far_8 : decode cX12_far 8 = .ok (.invokestatic 123, 3) := by decide +kernel
theorem dX12_far_11 : decode cX12_far 11 = .ok (.iload_n 0, 1) := by decide +kernel
theorem dX12_far_12 : decode cX12_far 12 = .ok (.bipush 8, 2) := by decide +kernel
theorem dX12_far_14 : decode cX12_far 14 = .ok (.idiv, 1) := by decide +kernel
theorem dX12_far_15 : decode cX12_far 15 = .ok (.iload_n 1, 1) := by decide +kernel
theorem dX12_far_16 : decode cX12_far 16 = .ok (.bipush 8, 2) := by decide +kernel
theorem dX12_far_18 : decode cX12_far 18 = .ok (.idiv, 1) := by decide +kernel
theorem dX12_far_19 : decode cX12_far 19 = .ok (.invokestatic 123, 3) := by decide +kernel
theorem dX12_far_22 : decode cX12_far 22 = .ok (.iadd, 1) := by decide +kernel
theorem dX12_far_23 : decode cX12_far 23 = .ok (.ireturn, 1) := by decide +kernel
theorem dX12_layHand_0 : decode cX12_layHand 0 = .ok (.aload_n 0, 1) := by decide +kernel
theorem dX12_layHand_1 : decode cX12_layHand 1 = .ok (.aload_n 0, 1) := by decide +kernel
theorem dX12_layHand_2 : decode cX12_layHand 2 = .ok (.getfield 7, 3) := by decide +kernel
theorem dX12_layHand_5 : decode cX12_layHand 5 = .ok (.iconst 2, 1) := by decide +kernel
theorem dX12_layHand_6 : decode cX12_layHand 6 = .ok (.iaload, 1) := by decide +kernel
theorem dX12_layHand_7 : decode cX12_layHand 7 = .ok (.putfield 126, 3) := by decide +kernel
theorem dX12_layHand_10 : decode cX12_layHand 10 = .ok (.iconst 0, 1) := by decide +kernel
theorem dX12_layHand_11 : decode cX12_layHand 11 = .ok (.istore_n 1, 1) := by decide +kernel
theorem dX12_layHand_12 : decode cX12_layHand 12 = .ok (.iload_n 1, 1) := by decide +kernel
theorem dX12_layHand_13 : decode cX12_layHand 13 = .ok (.aload_n 0, 1) := by decide +kernel
theorem dX12_layHand_14 : decode cX12_layHand 14 = .ok (.invokevirtual 57, 3) := by decide +kernel
theorem dX12_layHand_17 : decode cX12_layHand 17 = .ok (.if_icmp .ge 33, 3) := by decide +kernel
theorem dX12_layHand_20 : decode cX12_layHand 20 = .ok (.aload_n 0, 1) := by decide +kernel
theorem dX12_layHand_21 : decode cX12_layHand 21 = .ok (.getfield 27, 3) := by decide +kernel
theorem dX12_layHand_24 : decode cX12_layHand 24 = .ok (.iload_n 1, 1) := by decide +kernel
theorem dX12_layHand_25 : decode cX12_layHand 25 = .ok (.aload_n 0, 1) := by decide +kernel
theorem dX12_layHand_26 : decode cX12_layHand 26 = .ok (.iload_n 1, 1) := by decide +kernel
theorem dX12_layHand_27 : decode cX12_layHand 27 = .ok (.iconst 1, 1) := by decide +kernel
theorem dX12_layHand_28 : decode cX12_layHand 28 = .ok (.invokevirtual 104, 3) := by decide +kernel
theorem dX12_layHand_31 : decode cX12_layHand 31 = .ok (.iastore, 1) := by decide +kernel
theorem dX12_layHand_32 : decode cX12_layHand 32 = .ok (.aload_n 0, 1) := by decide +kernel
theorem dX12_layHand_33 : decode cX12_layHand 33 = .ok (.getfield 30, 3) := by decide +kernel
theorem dX12_layHand_36 : decode cX12_layHand 36 = .ok (.iload_n 1, 1) := by decide +kernel
theorem dX12_layHand_37 : decode cX12_layHand 37 = .ok (.aload_n 0, 1) := by decide +kernel
theorem dX12_layHand_38 : decode cX12_layHand 38 = .ok (.iload_n 1, 1) := by decide +kernel
theorem dX12_layHand_39 : decode cX12_layHand 39 = .ok (.iconst 3, 1) := by decide +kernel
theorem dX12_layHand_40 : decode cX12_layHand 40 = .ok (.invokevirtual 104, 3) := by decide +kernel
theorem dX12_layHand_43 : decode cX12_layHand 43 = .ok (.iastore, 1) := by decide +kernel
theorem dX12_layHand_44 : decode cX12_layHand 44 = .ok (.iinc 1 1, 3) := by decide +kernel
theorem dX12_layHand_47 : decode cX12_layHand 47 = .ok (.goto (-35), 3) := by decide +kernel
theorem dX12_layHand_50 : decode cX12_layHand 50 = .ok (.return_, 1) := by decide +kernel
theorem dX12_lightOf_0 : decode cX12_lightOf 0 = .ok (.aload_n 0, 1) := by decide +kernel
theorem dX12_lightOf_1 : decode cX12_lightOf 1 = .ok (.iload_n 1, 1) := by decide +kernel
theorem dX12_lightOf_2 : decode cX12_lightOf 2 = .ok (.iconst 0, 1) := by decide +kernel
theorem dX12_lightOf_3 : decode cX12_lightOf 3 = .ok (.invokevirtual 104, 3) := by decide +kernel
theorem dX12_lightOf_6 : decode cX12_lightOf 6 = .ok (.istore 4, 2) := by decide +kernel
theorem dX12_lightOf_8 : decode cX12_lightOf 8 = .ok (.aload_n 0, 1) := by decide +kernel
theorem dX12_lightOf_9 : decode cX12_lightOf 9 = .ok (.getfield 126, 3) := by decide +kernel
theorem dX12_lightOf_12 : decode cX12_lightOf 12 = .ok (.iload_n 1, 1) := by decide +kernel
theorem dX12_lightOf_13 : decode cX12_lightOf 13 = .ok (.ishr, 1) := by decide +kernel
theorem dX12_lightOf_14 : decode cX12_lightOf 14 = .ok (.iconst 1, 1) := by decide +kernel
theorem dX12_lightOf_15 : decode cX12_lightOf 15 = .ok (.iand, 1) := by decide +kernel
theorem dX12_lightOf_16 : decode cX12_lightOf 16 = .ok (.iconst 1, 1) := by decide +kernel
theorem dX12_lightOf_17 : decode cX12_lightOf 17 = .ok (.if_icmp .ne 22, 3) := by decide +kernel
theorem dX12_lightOf_20 : decode cX12_lightOf 20 = .ok (.iload_n 3, 1) := by decide +kernel
theorem dX12_lightOf_21 : decode cX12_lightOf 21 = .ok (.iload 4, 2) := by decide +kernel
theorem dX12_lightOf_23 : decode cX12_lightOf 23 = .ok (.aload_n 0, 1) := by decide +kernel
theorem dX12_lightOf_24 : decode cX12_lightOf 24 = .ok (.iload_n 1, 1) := by decide +kernel
theorem dX12_lightOf_25 : decode cX12_lightOf 25 = .ok (.iconst 4, 1) := by decide +kernel
theorem dX12_lightOf_26 : decode cX12_lightOf 26 = .ok (.invokevirtual 104, 3) := by decide +kernel
theorem dX12_lightOf_29 : decode cX12_lightOf 29 = .ok (.invokestatic 130, 3) := by decide +kernel
theorem dX12_lightOf_32 : decode cX12_lightOf 32 = .ok (.if_icmp .ge 7, 3) := by decide +kernel
theorem dX12_lightOf_35 : decode cX12_lightOf 35 = .ok (.iconst 1, 1) := by decide +kernel
theorem dX12_lightOf_36 : decode cX12_lightOf 36 = .ok (.goto 4, 3) := by decide +kernel
theorem dX12_lightOf_39 : decode cX12_lightOf 39 = .ok (.iconst 0, 1) := by decide +kernel
theorem dX12_lightOf_40 : decode cX12_lightOf 40 = .ok (.istore 5, 2) := by decide +kernel
theorem dX12_lightOf_42 : decode cX12_lightOf 42 = .ok (.iload 4, 2) := by decide +kernel
theorem dX12_lightOf_44 : decode cX12_lightOf 44 = .ok (.aload_n 0, 1) := by decide +kernel
theorem dX12_lightOf_45 : decode cX12_lightOf 45 = .ok (.iload_n 1, 1) := by decide +kernel
theorem dX12_lightOf_46 : decode cX12_lightOf 46 = .ok (.iconst 2, 1) := by decide +kernel
theorem dX12_lightOf_47 : decode cX12_lightOf 47 = .ok (.invokevirtual 104, 3) := by decide +kernel
theorem dX12_lightOf_50 : decode cX12_lightOf 50 = .ok (.aload_n 0, 1) := by decide +kernel
theorem dX12_lightOf_51 : decode cX12_lightOf 51 = .ok (.getfield 27, 3) := by decide +kernel
theorem dX12_lightOf_54 : decode cX12_lightOf 54 = .ok (.iload_n 1, 1) := by decide +kernel
theorem dX12_lightOf_55 : decode cX12_lightOf 55 = .ok (.iaload, 1) := by decide +kernel
theorem dX12_lightOf_56 : decode cX12_lightOf 56 = .ok (.iload_n 2, 1) := by decide +kernel
theorem dX12_lightOf_57 : decode cX12_lightOf 57 = .ok (.invokestatic 133, 3) := by decide +kernel
theorem dX12_lightOf_60 : decode cX12_lightOf 60 = .ok (.invokestatic 136, 3) := by decide +kernel
theorem dX12_lightOf_63 : decode cX12_lightOf 63 = .ok (.aload_n 0, 1) := by decide +kernel
theorem dX12_lightOf_64 : decode cX12_lightOf 64 = .ok (.getfield 7, 3) := by decide +kernel
theorem dX12_lightOf_67 : decode cX12_lightOf 67 = .ok (.iconst 1, 1) := by decide +kernel
theorem dX12_lightOf_68 : decode cX12_lightOf 68 = .ok (.iaload, 1) := by decide +kernel
theorem dX12_lightOf_69 : decode cX12_lightOf 69 = .ok (.isub, 1) := by decide +kernel
theorem dX12_lightOf_70 : decode cX12_lightOf 70 = .ok (.istore 6, 2) := by decide +kernel
theorem dX12_lightOf_72 : decode cX12_lightOf 72 = .ok (.iload 5, 2) := by decide +kernel
theorem dX12_lightOf_74 : decode cX12_lightOf 74 = .ok (.ifCond .eq 13, 3) := by decide +kernel
theorem dX12_lightOf_77 : decode cX12_lightOf 77 = .ok (.iload 6, 2) := by decide +kernel
theorem dX12_lightOf_79 : decode cX12_lightOf 79 = .ok (.ifCond .le 8, 3) := by decide +kernel
theorem dX12_lightOf_82 : decode cX12_lightOf 82 = .ok (.iload 6, 2) := by decide +kernel
theorem dX12_lightOf_84 : decode cX12_lightOf 84 = .ok (.goto 4, 3) := by decide +kernel
theorem dX12_lightOf_87 : decode cX12_lightOf 87 = .ok (.iconst 0, 1) := by decide +kernel
theorem dX12_lightOf_88 : decode cX12_lightOf 88 = .ok (.ireturn, 1) := by decide +kernel
theorem dX12_lightIn_0 : decode cX12_lightIn 0 = .ok (.iconst 0, 1) := by decide +kernel
theorem dX12_lightIn_1 : decode cX12_lightIn 1 = .ok (.istore_n 3, 1) := by decide +kernel
theorem dX12_lightIn_2 : decode cX12_lightIn 2 = .ok (.iconst 0, 1) := by decide +kernel
theorem dX12_lightIn_3 : decode cX12_lightIn 3 = .ok (.istore 4, 2) := by decide +kernel
theorem dX12_lightIn_5 : decode cX12_lightIn 5 = .ok (.iload 4, 2) := by decide +kernel
theorem dX12_lightIn_7 : decode cX12_lightIn 7 = .ok (.aload_n 0, 1) := by decide +kernel
theorem dX12_lightIn_8 : decode cX12_lightIn 8 = .ok (.invokevirtual 57, 3) := by decide +kernel
theorem dX12_lightIn_11 : decode cX12_lightIn 11 = .ok (.if_icmp .ge 32, 3) := by decide +kernel
theorem dX12_lightIn_14 : decode cX12_lightIn 14 = .ok (.aload_n 0, 1) := by decide +kernel
theorem dX12_lightIn_15 : decode cX12_lightIn 15 = .ok (.iload 4, 2) := by decide +kernel
theorem dX12_lightIn_17 : decode cX12_lightIn 17 = .ok (.iload_n 1, 1) := by decide +kernel
theorem dX12_lightIn_18 : decode cX12_lightIn 18 = .ok (.iload_n 2, 1) := by decide +kernel
theorem dX12_lightIn_19 : decode cX12_lightIn 19 = .ok (.invokevirtual 140, 3) := by decide +kernel
theorem dX12_lightIn_22 : decode cX12_lightIn 22 = .ok (.istore 5, 2) := by decide +kernel
theorem dX12_lightIn_24 : decode cX12_lightIn 24 = .ok (.iload 5, 2) := by decide +kernel
theorem dX12_lightIn_26 : decode cX12_lightIn 26 = .ok (.iload_n 3, 1) := by decide +kernel
theorem dX12_lightIn_27 : decode cX12_lightIn 27 = .ok (.if_icmp .le 8, 3) := by decide +kernel
theorem dX12_lightIn_30 : decode cX12_lightIn 30 = .ok (.iload 5, 2) := by decide +kernel
theorem dX12_lightIn_32 : decode cX12_lightIn 32 = .ok (.goto 4, 3) := by decide +kernel
theorem dX12_lightIn_35 : decode cX12_lightIn 35 = .ok (.iload_n 3, 1) := by decide +kernel
theorem dX12_lightIn_36 : decode cX12_lightIn 36 = .ok (.istore_n 3, 1) := by decide +kernel
theorem dX12_lightIn_37 : decode cX12_lightIn 37 = .ok (.iinc 4 1, 3) := by decide +kernel
theorem dX12_lightIn_40 : decode cX12_lightIn 40 = .ok (.goto (-35), 3) := by decide +kernel
theorem dX12_lightIn_43 : decode cX12_lightIn 43 = .ok (.iload_n 3, 1) := by decide +kernel
theorem dX12_lightIn_44 : decode cX12_lightIn 44 = .ok (.ireturn, 1) := by decide +kernel
theorem dX12_whose_0 : decode cX12_whose 0 = .ok (.aload_n 0, 1) := by decide +kernel
theorem dX12_whose_1 : decode cX12_whose 1 = .ok (.iload_n 1, 1) := by decide +kernel
theorem dX12_whose_2 : decode cX12_whose 2 = .ok (.iload_n 2, 1) := by decide +kernel
theorem dX12_whose_3 : decode cX12_whose 3 = .ok (.invokevirtual 143, 3) := by decide +kernel
theorem dX12_whose_6 : decode cX12_whose 6 = .ok (.istore_n 3, 1) := by decide +kernel
theorem dX12_whose_7 : decode cX12_whose 7 = .ok (.iconst (-1), 1) := by decide +kernel
theorem dX12_whose_8 : decode cX12_whose 8 = .ok (.istore 4, 2) := by decide +kernel
theorem dX12_whose_10 : decode cX12_whose 10 = .ok (.iconst 0, 1) := by decide +kernel
theorem dX12_whose_11 : decode cX12_whose 11 = .ok (.istore 5, 2) := by decide +kernel
theorem dX12_whose_13 : decode cX12_whose 13 = .ok (.iload 5, 2) := by decide +kernel
theorem dX12_whose_15 : decode cX12_whose 15 = .ok (.aload_n 0, 1) := by decide +kernel
theorem dX12_whose_16 : decode cX12_whose 16 = .ok (.invokevirtual 57, 3) := by decide +kernel
theorem dX12_whose_19 : decode cX12_whose 19 = .ok (.if_icmp .ge 74, 3) := by decide +kernel
theorem dX12_whose_22 : decode cX12_whose 22 = .ok (.iload_n 3, 1) := by decide +kernel
theorem dX12_whose_23 : decode cX12_whose 23 = .ok (.ifCond .le 70, 3) := by decide +kernel
theorem dX12_whose_26 : decode cX12_whose 26 = .ok (.aload_n 0, 1) := by decide +kernel
theorem dX12_whose_27 : decode cX12_whose 27 = .ok (.iload 5, 2) := by decide +kernel
theorem dX12_whose_29 : decode cX12_whose 29 = .ok (.iload_n 1, 1) := by decide +kernel
theorem dX12_whose_30 : decode cX12_whose 30 = .ok (.iload_n 2, 1) := by decide +kernel
theorem dX12_whose_31 : decode cX12_whose 31 = .ok (.invokevirtual 140, 3) := by decide +kernel
theorem dX12_whose_34 : decode cX12_whose 34 = .ok (.iload_n 3, 1) := by decide +kernel
theorem dX12_whose_35 : decode cX12_whose 35 = .ok (.if_icmp .ne 7, 3) := by decide +kernel
theorem dX12_whose_38 : decode cX12_whose 38 = .ok (.iconst 1, 1) := by decide +kernel
theorem dX12_whose_39 : decode cX12_whose 39 = .ok (.goto 4, 3) := by decide +kernel
theorem dX12_whose_42 : decode cX12_whose 42 = .ok (.iconst 0, 1) := by decide +kernel
theorem dX12_whose_43 : decode cX12_whose 43 = .ok (.istore 6, 2) := by decide +kernel
theorem dX12_whose_45 : decode cX12_whose 45 = .ok (.iload 6, 2) := by decide +kernel
theorem dX12_whose_47 : decode cX12_whose 47 = .ok (.ifCond .eq 15, 3) := by decide +kernel
theorem dX12_whose_50 : decode cX12_whose 50 = .ok (.iload 4, 2) := by decide +kernel
theorem dX12_whose_52 : decode cX12_whose 52 = .ok (.aload_n 0, 1) := by decide +kernel
theorem dX12_whose_53 : decode cX12_whose 53 = .ok (.getfield 30, 3) := by decide +kernel
theorem dX12_whose_56 : decode cX12_whose 56 = .ok (.iload 5, 2) := by decide +kernel
theorem dX12_whose_58 : decode cX12_whose 58 = .ok (.iaload, 1) := by decide +kernel
theorem dX12_whose_59 : decode cX12_whose 59 = .ok (.if_icmp .ne 8, 3) := by decide +kernel
theorem dX12_whose_62 : decode cX12_whose 62 = .ok (.iload 4, 2) := by decide +kernel
theorem dX12_whose_64 : decode cX12_whose 64 = .ok (.goto 21, 3) := by decide +kernel
theorem dX12_whose_67 : decode cX12_whose 67 = .ok (.iload 4, 2) := by decide +kernel
theorem dX12_whose_69 : decode cX12_whose 69 = .ok (.iconst (-1), 1) := by decide +kernel
theorem dX12_whose_70 : decode cX12_whose 70 = .ok (.if_icmp .ne 13, 3) := by decide +kernel
theorem dX12_whose_73 : decode cX12_whose 73 = .ok (.aload_n 0, 1) := by decide +kernel
theorem dX12_whose_74 : decode cX12_whose 74 = .ok (.getfield 30, 3) := by decide +kernel
theorem dX12_whose_77 : decode cX12_whose 77 = .ok (.iload 5, 2) := by decide +kernel
theorem dX12_whose_79 : decode cX12_whose 79 = .ok (.iaload, 1) := by decide +kernel
theorem dX12_whose_80 : decode cX12_whose 80 = .ok (.goto 5, 3) := by decide +kernel
theorem dX12_whose_83 : decode cX12_whose 83 = .ok (.bipush (-2), 2) := by decide +kernel
theorem dX12_whose_85 : decode cX12_whose 85 = .ok (.istore 4, 2) := by decide +kernel
theorem dX12_whose_87 : decode cX12_whose 87 = .ok (.iinc 5 1, 3) := by decide +kernel
theorem dX12_whose_90 : decode cX12_whose 90 = .ok (.goto (-77), 3) := by decide +kernel
theorem dX12_whose_93 : decode cX12_whose 93 = .ok (.iload 4, 2) := by decide +kernel
theorem dX12_whose_95 : decode cX12_whose 95 = .ok (.ireturn, 1) := by decide +kernel
