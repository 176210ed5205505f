theorem dX0_init_0 : decode cX0_init 0 = .ok (.aload_n 0, 1) := by decide +kernel
theorem dX0_init_1 : decode cX0_init 1 = .ok (.invokespecial 1, 3) := by decide +kernel
theorem dX0_init_4 : decode cX0_init 4 = .ok (.return_, 1) := by decide +kernel
theorem dX0_strength_0 : decode cX0_strength 0 = .ok (.aload_n 0, 1) := by decide +kernel
theorem dX0_strength_1 : decode cX0_strength 1 = .ok (.iload_n 1, 1) := by decide +kernel
theorem dX0_strength_2 : decode cX0_strength 2 = .ok (.iload_n 2, 1) := by decide +kernel
theorem dX0_strength_3 : decode cX0_strength 3 = .ok (.invokespecial 7, 3) := by decide +kernel
theorem dX0_strength_6 : decode cX0_strength 6 = .ok (.iconst 2, 1) := by decide +kernel
theorem dX0_strength_7 : decode cX0_strength 7 = .ok (.idiv, 1) := by decide +kernel
theorem dX0_strength_8 : decode cX0_strength 8 = .ok (.ireturn, 1) := by decide +kernel
theorem dX0_hours_0 : decode cX0_hours 0 = .ok (.aload_n 0, 1) := by decide +kernel
theorem dX0_hours_1 : decode cX0_hours 1 = .ok (.iload_n 1, 1) := by decide +kernel
theorem dX0_hours_2 : decode cX0_hours 2 = .ok (.invokespecial 11, 3) := by decide +kernel
theorem dX0_hours_5 : decode cX0_hours 5 = .ok (.iconst 2, 1) := by decide +kernel
theorem dX0_hours_6 : decode cX0_hours 6 = .ok (.iadd, 1) := by decide +kernel
theorem dX0_hours_7 : decode cX0_hours 7 = .ok (.ireturn, 1) := by decide +kernel
theorem dX1_init_0 : decode cX1_init 0 = .ok (.aload_n 0, 1) := by decide +kernel
theorem dX1_init_1 : decode cX1_init 1 = .ok (.invokespecial 1, 3) := by decide +kernel
theorem dX1_init_4 : decode cX1_init 4 = .ok (.return_, 1) := by decide +kernel
theorem dX1_strength_0 : decode cX1_strength 0 = .ok (.aload_n 0, 1) := by decide +kernel
theorem dX1_strength_1 : decode cX1_strength 1 = .ok (.iload_n 1, 1) := by decide +kernel
theorem dX1_strength_2 : decode cX1_strength 2 = .ok (.iload_n 2, 1) := by decide +kernel
theorem dX1_strength_3 : decode cX1_strength 3 = .ok (.iconst 2, 1) := by decide +kernel
theorem dX1_strength_4 : decode cX1_strength 4 = .ok (.if_icmp .le 9, 3) := by decide +kernel
theorem dX1_strength_7 : decode cX1_strength 7 = .ok (.iload_n 2, 1) := by decide +kernel
theorem dX1_strength_8 : decode cX1_strength 8 = .ok (.iconst 2, 1) := by decide +kernel
theorem dX1_strength_9 : decode cX1_strength 9 = .ok (.isub, 1) := by decide +kernel
theorem dX1_strength_10 : decode cX1_strength 10 = .ok (.goto 4, 3) := by decide +kernel
theorem dX1_strength_13 : decode cX1_strength 13 = .ok (.iconst 0, 1) := by decide +kernel
theorem dX1_strength_14 : decode cX1_strength 14 = .ok (.invokespecial 7, 3) := by decide +kernel
theorem dX1_strength_17 : decode cX1_strength 17 = .ok (.ireturn, 1) := by decide +kernel
theorem dX2_init_0 : decode cX2_init 0 = .ok (.aload_n 0, 1) := by decide +kernel
theorem dX2_init_1 : decode cX2_init 1 = .ok (.invokespecial 1, 3) := by decide +kernel
theorem dX2_init_4 : decode cX2_init 4 = .ok (.return_, 1) := by decide +kernel
theorem dX2_hours_0 : decode cX2_hours 0 = .ok (.iconst 2, 1) := by decide +kernel
theorem dX2_hours_1 : decode cX2_hours 1 = .ok (.aload_n 0, 1) := by decide +kernel
theorem dX2_hours_2 : decode cX2_hours 2 = .ok (.iload_n 1, 1) := by decide +kernel
theorem dX2_hours_3 : decode cX2_hours 3 = .ok (.invokespecial 7, 3) := by decide +kernel
theorem dX2_hours_6 : decode cX2_hours 6 = .ok (.imul, 1) := by decide +kernel
theorem dX2_hours_7 : decode cX2_hours 7 = .ok (.ireturn, 1) := by decide +kernel
theorem dX3_init_0 : decode cX3_init 0 = .ok (.aload_n 0, 1) := by decide +kernel
theorem dX3_init_1 : decode cX3_init 1 = .ok (.invokespecial 3, 3) := by decide +kernel
theorem dX3_init_4 : decode cX3_init 4 = .ok (.aload_n 0, 1) := by decide +kernel
theorem dX3_init_5 : decode cX3_init 5 = .ok (.bipush 6, 2) := by decide +kernel
theorem dX3_init_7 : decode cX3_init 7 = .ok (.anewarray 9, 3) := by decide +kernel
theorem dX3_init_10 : decode cX3_init 10 = .ok (.dup, 1) := by decide +kernel
theorem dX3_init_11 : decode cX3_init 11 = .ok (.iconst 0, 1) := by decide +kernel
theorem dX3_init_12 : decode cX3_init 12 = .ok (.new 9, 3) := by decide +kernel
theorem dX3_init_15 : decode cX3_init 15 = .ok (.dup, 1) := by decide +kernel
theorem dX3_init_16 : decode cX3_init 16 = .ok (.invokespecial 11, 3) := by decide +kernel
theorem dX3_init_19 : decode cX3_init 19 = .ok (.aastore, 1) := by decide +kernel
theorem dX3_init_20 : decode cX3_init 20 = .ok (.dup, 1) := by decide +kernel
theorem dX3_init_21 : decode cX3_init 21 = .ok (.iconst 1, 1) := by decide +kernel
theorem dX3_init_22 : decode cX3_init 22 = .ok (.new 12, 3) := by decide +kernel
theorem dX3_init_25 : decode cX3_init 25 = .ok (.dup, 1) := by decide +kernel
theorem dX3_init_26 : decode cX3_init 26 = .ok (.invokespecial 14, 3) := by decide +kernel
theorem dX3_init_29 : decode cX3_init 29 = .ok (.aastore, 1) := by decide +kernel
theorem dX3_init_30 : decode cX3_init 30 = .ok (.dup, 1) := by decide +kernel
theorem dX3_init_31 : decode cX3_init 31 = .ok (.iconst 2, 1) := by decide +kernel
theorem dX3_init_32 : decode cX3_init 32 = .ok (.new 15, 3) := by decide +kernel
theorem dX3_init_35 : decode cX3_init 35 = .ok (.dup, 1) := by decide +kernel
theorem dX3_init_36 : decode cX3_init 36 = .ok (.invokespecial 17, 3) := by decide +kernel
theorem dX3_init_39 : decode cX3_init 39 = .ok (.aastore, 1) := by decide +kernel
theorem dX3_init_40 : decode cX3_init 40 = .ok (.dup, 1) := by decide +kernel
theorem dX3_init_41 : decode cX3_init 41 = .ok (.iconst 3, 1) := by decide +kernel
theorem dX3_init_42 : decode cX3_init 42 = .ok (.new 18, 3) := by decide +kernel
theorem dX3_init_45 : decode cX3_init 45 = .ok (.dup, 1) := by decide +kernel
theorem dX3_init_46 : decode cX3_init 46 = .ok (.invokespecial 20, 3) := by decide +kernel
theorem dX3_init_49 : decode cX3_init 49 = .ok (.aastore, 1) := by decide +kernel
theorem dX3_init_50 : decode cX3_init 50 = .ok (.dup, 1) := by decide +kernel
theorem dX3_init_51 : decode cX3_init 51 = .ok (.iconst 4, 1) := by decide +kernel
theorem dX3_init_52 : decode cX3_init 52 = .ok (.new 21, 3) := by decide +kernel
theorem dX3_init_55 : decode cX3_init 55 = .ok (.dup, 1) := by decide +kernel
theorem dX3_init_56 : decode cX3_init 56 = .ok (.invokespecial 23, 3) := by decide +kernel
theorem dX3_init_59 : decode cX3_init 59 = .ok (.aastore, 1) := by decide +kernel
theorem dX3_init_60 : decode cX3_init 60 = .ok (.dup, 1) := by decide +kernel
theorem dX3_init_61 : decode cX3_init 61 = .ok (.iconst 5, 1) := by decide +kernel
theorem dX3_init_62 : decode cX3_init 62 = .ok (.new 24, 3) := by decide +kernel
theorem dX3_init_65 : decode cX3_init 65 = .ok (.dup, 1) := by decide +kernel
theorem dX3_init_66 : decode cX3_init 66 = .ok (.invokespecial 26, 3) := by decide +kernel
theorem dX3_init_69 : decode cX3_init 69 = .ok (.aastore, 1) := by decide +kernel
theorem dX3_init_70 : decode cX3_init 70 = .ok (.putfield 27, 3) := by decide +kernel
theorem dX3_init_73 : decode cX3_init 73 = .ok (.aload_n 0, 1) := by decide +kernel
theorem dX3_init_74 : decode cX3_init 74 = .ok (.sipush 448, 3) := by decide +kernel
theorem dX3_init_77 : decode cX3_init 77 = .ok (.newarray .int, 2) := by decide +kernel
theorem dX3_init_79 : decode cX3_init 79 = .ok (.putfield 33, 3) := by decide +kernel
theorem dX3_init_82 : decode cX3_init 82 = .ok (.aload_n 0, 1) := by decide +kernel
theorem dX3_init_83 : decode cX3_init 83 = .ok (.bipush 7, 2) := by decide +kernel
theorem dX3_init_85 : decode cX3_init 85 = .ok (.newarray .int, 2) := by decide +kernel
theorem dX3_init_87 : decode cX3_init 87 = .ok (.putfield 37, 3) := by decide +kernel
theorem dX3_init_90 : decode cX3_init 90 = .ok (.aload_n 0, 1) := by decide +kernel
theorem dX3_init_91 : decode cX3_init 91 = .ok (.bipush 64, 2) := by decide +kernel
theorem dX3_init_93 : decode cX3_init 93 = .ok (.newarray .int, 2) := by decide +kernel
theorem dX3_init_95 : decode cX3_init 95 = .ok (.putfield 40, 3) := by decide +kernel
theorem dX3_init_98 : decode cX3_init 98 = .ok (.aload_n 0, 1) := by decide +kernel
theorem dX3_init_99 : decode cX3_init 99 = .ok (.bipush 64, 2) := by decide +kernel
theorem dX3_init_101 : decode cX3_init 101 = .ok (.newarray .int, 2) := by decide +kernel
theorem dX3_init_103 : decode cX3_init 103 = .ok (.putfield 43, 3) := by decide +kernel
theorem dX3_init_106 : decode cX3_init 106 = .ok (.aload_n 0, 1) := by decide +kernel
theorem dX3_init_107 : decode cX3_init 107 = .ok (.bipush 15, 2) := by decide +kernel
theorem dX3_init_109 : decode cX3_init 109 = .ok (.newarray .int, 2) := by decide +kernel
theorem dX3_init_111 : decode cX3_init 111 = .ok (.putfield 46, 3) := by decide +kernel
theorem dX3_init_114 : decode cX3_init 114 = .ok (.aload_n 0, 1) := by decide +kernel
theorem dX3_init_115 : decode cX3_init 115 = .ok (.iconst 4, 1) := by decide +kernel
theorem dX3_init_116 : decode cX3_init 116 = .ok (.newarray .int, 2) := by decide +kernel
theorem dX3_init_118 : decode cX3_init 118 = .ok (.putfield 49, 3) := by decide +kernel
theorem dX3_init_121 : decode cX3_init 121 = .ok (.aload_n 0, 1) := by decide +kernel
theorem dX3_init_122 : decode cX3_init 122 = .ok (.iconst 4, 1) := by decide +kernel
theorem dX3_init_123 : decode cX3_init 123 = .ok (.newarray .int, 2) := by decide +kernel
theorem dX3_init_125 : decode cX3_init 125 = .ok (.putfield 52, 3) := by decide +kernel
theorem dX3_init_128 : decode cX3_init 128 = .ok (.aload_n 0, 1) := by decide +kernel
theorem dX3_init_129 : decode cX3_init 129 = .ok (.aload_n 1, 1) := by decide +kernel
theorem dX3_init_130 : decode cX3_init 130 = .ok (.putfield 55, 3) := by decide +kernel
theorem dX3_init_133 : decode cX3_init 133 = .ok (.return_, 1) := by decide +kernel
theorem dX3_hoursOf_0 : decode cX3_hoursOf 0 = .ok (.aload_n 0, 1) := by decide +kernel
theorem dX3_hoursOf_1 : decode cX3_hoursOf 1 = .ok (.getfield 27, 3) := by decide +kernel
theorem dX3_hoursOf_4 : decode cX3_hoursOf 4 = .ok (.aload_n 0, 1) := by decide +kernel
theorem dX3_hoursOf_5 : decode cX3_hoursOf 5 = .ok (.getfield 55, 3) := by decide +kernel
theorem dX3_hoursOf_8 : decode cX3_hoursOf 8 = .ok (.getfield 59, 3) := by decide +kernel
theorem dX3_hoursOf_11 : decode cX3_hoursOf 11 = .ok (.iload_n 1, 1) := by decide +kernel
theorem dX3_hoursOf_12 : decode cX3_hoursOf 12 = .ok (.iaload, 1) := by decide +kernel
theorem dX3_hoursOf_13 : decode cX3_hoursOf 13 = .ok (.aaload, 1) := by decide +kernel
theorem dX3_hoursOf_14 : decode cX3_hoursOf 14 = .ok (.aload_n 0, 1) := by decide +kernel
theorem dX3_hoursOf_15 : decode cX3_hoursOf 15 = .ok (.getfield 55, 3) := by decide +kernel
theorem dX3_hoursOf_18 : decode cX3_hoursOf 18 = .ok (.getfield 64, 3) := by decide +kernel
theorem dX3_hoursOf_21 : decode cX3_hoursOf 21 = .ok (.iload_n 1, 1) := by decide +kernel
theorem dX3_hoursOf_22 : decode cX3_hoursOf 22 = .ok (.iaload, 1) := by decide +kernel
theorem dX3_hoursOf_23 : decode cX3_hoursOf 23 = .ok (.invokevirtual 67, 3) := by decide +kernel
theorem dX3_hoursOf_26 : decode cX3_hoursOf 26 = .ok (.ireturn, 1) := by decide +kernel
theorem dX3_ifLit_0 : decode cX3_ifLit 0 = .ok (.aload_n 0, 1) := by decide +kernel
theorem dX3_ifLit_1 : decode cX3_ifLit 1 = .ok (.getfield 27, 3) := by decide +kernel
theorem dX3_ifLit_4 : decode cX3_ifLit 4 = .ok (.aload_n 0, 1) := by decide +kernel
theorem dX3_ifLit_5 : decode cX3_ifLit 5 = .ok (.getfield 55, 3) := by decide +kernel
theorem dX3_ifLit_8 : decode cX3_ifLit 8 = .ok (.getfield 59, 3) := by decide +kernel
theorem dX3_ifLit_11 : decode cX3_ifLit 11 = .ok (.iload_n 1, 1) := by decide +kernel
theorem dX3_ifLit_12 : decode cX3_ifLit 12 = .ok (.iaload, 1) := by decide +kernel
theorem dX3_ifLit_13 : decode cX3_ifLit 13 = .ok (.aaload, 1) := by decide +kernel
theorem dX3_ifLit_14 : decode cX3_ifLit 14 = .ok (.astore 4, 2) := by decide +kernel
theorem dX3_ifLit_16 : decode cX3_ifLit 16 = .ok (.iload_n 3, 1) := by decide +kernel
theorem dX3_ifLit_17 : decode cX3_ifLit 17 = .ok (.aload 4, 2) := by decide +kernel
theorem dX3_ifLit_19 : decode cX3_ifLit 19 = .ok (.aload_n 0, 1) := by decide +kernel
theorem dX3_ifLit_20 : decode cX3_ifLit 20 = .ok (.getfield 55, 3) := by decide +kernel
theorem dX3_ifLit_23 : decode cX3_ifLit 23 = .ok (.getfield 64, 3) := by decide +kernel
theorem dX3_ifLit_26 : decode cX3_ifLit 26 = .ok (.iload_n 1, 1) := by decide +kernel
theorem dX3_ifLit_27 : decode cX3_ifLit 27 = .ok (.iaload, 1) := by decide +kernel
theorem dX3_ifLit_28 : decode cX3_ifLit 28 = .ok (.invokevirtual 67, 3) := by decide +kernel
theorem dX3_ifLit_31 : decode cX3_ifLit 31 = .ok (.if_icmp .lt 5, 3) := by decide +kernel
theorem dX3_ifLit_34 : decode cX3_ifLit 34 = .ok (.iconst 0, 1) := by decide +kernel
theorem dX3_ifLit_35 : decode cX3_ifLit 35 = .ok (.ireturn, 1) := by decide +kernel
theorem dX3_ifLit_36 : decode cX3_ifLit 36 = .ok (.iconst 0, 1) := by decide +kernel
theorem dX3_ifLit_37 : decode cX3_ifLit 37 = .ok (.aload 4, 2) := by decide +kernel
theorem dX3_ifLit_39 : decode cX3_ifLit 39 = .ok (.aload_n 0, 1) := by decide +kernel
theorem dX3_ifLit_40 : decode cX3_ifLit 40 = .ok (.getfield 55, 3) := by decide +kernel
theorem dX3_ifLit_43 : decode cX3_ifLit 43 = .ok (.getfield 71, 3) := by decide +kernel
theorem dX3_ifLit_46 : decode cX3_ifLit 46 = .ok (.iload_n 1, 1) := by decide +kernel
theorem dX3_ifLit_47 : decode cX3_ifLit 47 = .ok (.iaload, 1) := by decide +kernel
theorem dX3_ifLit_48 : decode cX3_ifLit 48 = .ok (.iload_n 2, 1) := by decide +kernel
theorem dX3_ifLit_49 : decode cX3_ifLit 49 = .ok (.invokevirtual 74, 3) := by decide +kernel
theorem dX3_ifLit_52 : decode cX3_ifLit 52 = .ok (.aload_n 0, 1) := by decide +kernel
theorem dX3_ifLit_53 : decode cX3_ifLit 53 = .ok (.getfield 55, 3) := by decide +kernel
theorem dX3_ifLit_56 : decode cX3_ifLit 56 = .ok (.getfield 78, 3) := by decide +kernel
theorem dX3_ifLit_59 : decode cX3_ifLit 59 = .ok (.isub, 1) := by decide +kernel
theorem dX3_ifLit_60 : decode cX3_ifLit 60 = .ok (.invokestatic 82, 3) := by decide +kernel
theorem dX3_ifLit_63 : decode cX3_ifLit 63 = .ok (.ireturn, 1) := by decide +kernel
theorem dX3_layCell_0 : decode cX3_layCell 0 = .ok (.iconst 0, 1) := by decide +kernel
theorem dX3_layCell_1 : decode cX3_layCell 1 = .ok (.istore_n 3, 1) := by decide +kernel
theorem dX3_layCell_2 : decode cX3_layCell 2 = .ok (.iload_n 3, 1) := by decide +kernel
theorem dX3_layCell_3 : decode cX3_layCell 3 = .ok (.aload_n 0, 1) := by decide +kernel
theorem dX3_layCell_4 : decode cX3_layCell 4 = .ok (.getfield 55, 3) := by decide +kernel
theorem dX3_layCell_7 : decode cX3_layCell 7 = .ok (.getfield 87, 3) := by decide +kernel
theorem dX3_layCell_10 : decode cX3_layCell 10 = .ok (.if_icmp .ge 35, 3) := by decide +kernel
theorem dX3_layCell_13 : decode cX3_layCell 13 = .ok (.aload_n 0, 1) := by decide +kernel
theorem dX3_layCell_14 : decode cX3_layCell 14 = .ok (.getfield 33, 3) := by decide +kernel
theorem dX3_layCell_17 : decode cX3_layCell 17 = .ok (.iload_n 1, 1) := by decide +kernel
theorem dX3_layCell_18 : decode cX3_layCell 18 = .ok (.bipush 7, 2) := by decide +kernel
theorem dX3_layCell_20 : decode cX3_layCell 20 = .ok (.imul, 1) := by decide +kernel
theorem dX3_layCell_21 : decode cX3_layCell 21 = .ok (.iload_n 3, 1) := by decide +kernel
theorem dX3_layCell_22 : decode cX3_layCell 22 = .ok (.iadd, 1) := by decide +kernel
theorem dX3_layCell_23 : decode cX3_layCell 23 = .ok (.aload_n 0, 1) := by decide +kernel
theorem dX3_layCell_24 : decode cX3_layCell 24 = .ok (.iload_n 3, 1) := by decide +kernel
theorem dX3_layCell_25 : decode cX3_layCell 25 = .ok (.aload_n 0, 1) := by decide +kernel
theorem dX3_layCell_26 : decode cX3_layCell 26 = .ok (.getfield 55, 3) := by decide +kernel
theorem dX3_layCell_29 : decode cX3_layCell 29 = .ok (.iload_n 3, 1) := by decide +kernel
theorem dX3_layCell_30 : decode cX3_layCell 30 = .ok (.iload_n 1, 1) := by decide +kernel
theorem dX3_layCell_31 : decode cX3_layCell 31 = .ok (.invokevirtual 90, 3) := by decide +kernel
theorem dX3_layCell_34 : decode cX3_layCell 34 = .ok (.iload_n 2, 1) := by decide +kernel
theorem dX3_layCell_35 : decode cX3_layCell 35 = .ok (.invokevirtual 93, 3) := by decide +kernel
theorem dX3_layCell_38 : decode cX3_layCell 38 = .ok (.iastore, 1) := by decide +kernel
theorem dX3_layCell_39 : decode cX3_layCell 39 = .ok (.iinc 3 1, 3) := by decide +kernel
theorem dX3_layCell_42 : decode cX3_layCell 42 = .ok (.goto (-40), 3) := by decide +kernel
theorem dX3_layCell_45 : decode cX3_layCell 45 = .ok (.return_, 1) := by decide +kernel
theorem dX3_layAll_0 : decode cX3_layAll 0 = .ok (.iconst 0, 1) := by decide +kernel
theorem dX3_layAll_1 : decode cX3_layAll 1 = .ok (.istore_n 2, 1) := by decide +kernel
theorem dX3_layAll_2 : decode cX3_layAll 2 = .ok (.iload_n 2, 1) := by decide +kernel
theorem dX3_layAll_3 : decode cX3_layAll 3 = .ok (.aload_n 0, 1) := by decide +kernel
theorem dX3_layAll_4 : decode cX3_layAll 4 = .ok (.getfield 55, 3) := by decide +kernel
theorem dX3_layAll_7 : decode cX3_layAll 7 = .ok (.getfield 87, 3) := by decide +kernel
theorem dX3_layAll_10 : decode cX3_layAll 10 = .ok (.if_icmp .ge 54, 3) := by decide +kernel
theorem dX3_layAll_13 : decode cX3_layAll 13 = .ok (.aload_n 0, 1) := by decide +kernel
theorem dX3_layAll_14 : decode cX3_layAll 14 = .ok (.iload_n 2, 1) := by decide +kernel
theorem dX3_layAll_15 : decode cX3_layAll 15 = .ok (.iload_n 1, 1) := by decide +kernel
theorem dX3_layAll_16 : decode cX3_layAll 16 = .ok (.invokevirtual 97, 3) := by decide +kernel
theorem dX3_layAll_19 : decode cX3_layAll 19 = .ok (.iconst 0, 1) := by decide +kernel
theorem dX3_layAll_20 : decode cX3_layAll 20 = .ok (.istore_n 3, 1) := by decide +kernel
theorem dX3_layAll_21 : decode cX3_layAll 21 = .ok (.iload_n 3, 1) := by decide +kernel
theorem dX3_layAll_22 : decode cX3_layAll 22 = .ok (.bipush 64, 2) := by decide +kernel
theorem dX3_layAll_24 : decode cX3_layAll 24 = .ok (.if_icmp .ge 34, 3) := by decide +kernel
theorem dX3_layAll_27 : decode cX3_layAll 27 = .ok (.aload_n 0, 1) := by decide +kernel
theorem dX3_layAll_28 : decode cX3_layAll 28 = .ok (.getfield 33, 3) := by decide +kernel
theorem dX3_layAll_31 : decode cX3_layAll 31 = .ok (.iload_n 3, 1) := by decide +kernel
theorem dX3_layAll_32 : decode cX3_layAll 32 = .ok (.bipush 7, 2) := by decide +kernel
theorem dX3_layAll_34 : decode cX3_layAll 34 = .ok (.imul, 1) := by decide +kernel
theorem dX3_layAll_35 : decode cX3_layAll 35 = .ok (.iload_n 2, 1) := by decide +kernel
theorem dX3_layAll_36 : decode cX3_layAll 36 = .ok (.iadd, 1) := by decide +kernel
theorem dX3_layAll_37 : decode cX3_layAll 37 = .ok (.aload_n 0, 1) := by decide +kernel
theorem dX3_layAll_38 : decode cX3_layAll 38 = .ok (.getfield 46, 3) := by decide +kernel
theorem dX3_layAll_41 : decode cX3_layAll 41 = .ok (.aload_n 0, 1) := by decide +kernel
theorem dX3_layAll_42 : decode cX3_layAll 42 = .ok (.getfield 55, 3) := by decide +kernel
theorem dX3_layAll_45 : decode cX3_layAll 45 = .ok (.iload_n 2, 1) := by decide +kernel
theorem dX3_layAll_46 : decode cX3_layAll 46 = .ok (.iload_n 3, 1) := by decide +kernel
theorem dX3_layAll_47 : decode cX3_layAll 47 = .ok (.invokevirtual 90, 3) := by decide +kernel
theorem dX3_layAll_50 : decode cX3_layAll 50 = .ok (.iaload, 1) := by decide +kernel
theorem dX3_layAll_51 : decode cX3_layAll 51 = .ok (.iastore, 1) := by decide +kernel
theorem dX3_layAll_52 : decode cX3_layAll 52 = .ok (.iinc 3 1, 3) := by decide +kernel
theorem dX3_layAll_55 : decode cX3_layAll 55 = .ok (.goto (-34), 3) := by decide +kernel
theorem dX3_layAll_58 : decode cX3_layAll 58 = .ok (.iinc 2 1, 3) := by decide +kernel
theorem dX3_layAll_61 : decode cX3_layAll 61 = .ok (.goto (-59), 3) := by decide +kernel
theorem dX3_layAll_64 : decode cX3_layAll 64 = .ok (.return_, 1) := by decide +kernel
theorem dX3_layFar_0 : decode cX3_layFar 0 = .ok (.iconst 0, 1) := by decide +kernel
theorem dX3_layFar_1 : decode cX3_layFar 1 = .ok (.istore_n 3, 1) := by decide +kernel
theorem dX3_layFar_2 : decode cX3_layFar 2 = .ok (.iload_n 3, 1) := by decide +kernel
theorem dX3_layFar_3 : decode cX3_layFar 3 = .ok (.bipush 14, 2) := by decide +kernel
theorem dX3_layFar_5 : decode cX3_layFar 5 = .ok (.if_icmp .gt 22, 3) := by decide +kernel
theorem dX3_layFar_8 : decode cX3_layFar 8 = .ok (.aload_n 0, 1) := by decide +kernel
theorem dX3_layFar_9 : decode cX3_layFar 9 = .ok (.getfield 46, 3) := by decide +kernel
theorem dX3_layFar_12 : decode cX3_layFar 12 = .ok (.iload_n 3, 1) := by decide +kernel
theorem dX3_layFar_13 : decode cX3_layFar 13 = .ok (.aload_n 0, 1) := by decide +kernel
theorem dX3_layFar_14 : decode cX3_layFar 14 = .ok (.iload_n 1, 1) := by decide +kernel
theorem dX3_layFar_15 : decode cX3_layFar 15 = .ok (.iload_n 3, 1) := by decide +kernel
theorem dX3_layFar_16 : decode cX3_layFar 16 = .ok (.iload_n 2, 1) := by decide +kernel
theorem dX3_layFar_17 : decode cX3_layFar 17 = .ok (.invokevirtual 93, 3) := by decide +kernel
theorem dX3_layFar_20 : decode cX3_layFar 20 = .ok (.iastore, 1) := by decide +kernel
theorem dX3_layFar_21 : decode cX3_layFar 21 = .ok (.iinc 3 1, 3) := by decide +kernel
theorem dX3_layFar_24 : decode cX3_layFar 24 = .ok (.goto (-22), 3) := by decide +kernel
theorem dX3_layFar_27 : decode cX3_layFar 27 = .ok (.return_, 1) := by decide +kernel
theorem dX3_reaching_0 : decode cX3_reaching 0 = .ok (.iconst 0, 1) := by decide +kernel
theorem dX3_reaching_1 : decode cX3_reaching 1 = .ok (.istore 4, 2) := by decide +kernel
theorem dX3_reaching_3 : decode cX3_reaching 3 = .ok (.iconst 0, 1) := by decide +kernel
theorem dX3_reaching_4 : decode cX3_reaching 4 = .ok (.istore 5, 2) := by decide +kernel
theorem dX3_reaching_6 : decode cX3_reaching 6 = .ok (.iload 5, 2) := by decide +kernel
theorem dX3_reaching_8 : decode cX3_reaching 8 = .ok (.aload_n 0, 1) := by decide +kernel
theorem dX3_reaching_9 : decode cX3_reaching 9 = .ok (.getfield 55, 3) := by decide +kernel
theorem dX3_reaching_12 : decode cX3_reaching 12 = .ok (.getfield 87, 3) := by decide +kernel
theorem dX3_reaching_15 : decode cX3_reaching 15 = .ok (.if_icmp .ge 39, 3) := by decide +kernel
theorem dX3_reaching_18 : decode cX3_reaching 18 = .ok (.aload_n 0, 1) := by decide +kernel
theorem dX3_reaching_19 : decode cX3_reaching 19 = .ok (.iload 5, 2) := by decide +kernel
theorem dX3_reaching_21 : decode cX3_reaching 21 = .ok (.aload_n 0, 1) := by decide +kernel
theorem dX3_reaching_22 : decode cX3_reaching 22 = .ok (.getfield 55, 3) := by decide +kernel
theorem dX3_reaching_25 : decode cX3_reaching 25 = .ok (.iload 5, 2) := by decide +kernel
theorem dX3_reaching_27 : decode cX3_reaching 27 = .ok (.iload_n 1, 1) := by decide +kernel
theorem dX3_reaching_28 : decode cX3_reaching 28 = .ok (.invokevirtual 90, 3) := by decide +kernel
theorem dX3_reaching_31 : decode cX3_reaching 31 = .ok (.iload_n 2, 1) := by decide +kernel
theorem dX3_reaching_32 : decode cX3_reaching 32 = .ok (.invokevirtual 93, 3) := by decide +kernel
theorem dX3_reaching_35 : decode cX3_reaching 35 = .ok (.iload_n 3, 1) := by decide +kernel
theorem dX3_reaching_36 : decode cX3_reaching 36 = .ok (.if_icmp .lt 12, 3) := by decide +kernel
theorem dX3_reaching_39 : decode cX3_reaching 39 = .ok (.iload 4, 2) := by decide +kernel
theorem dX3_reaching_41 : decode cX3_reaching 41 = .ok (.iconst 1, 1) := by decide +kernel
theorem dX3_reaching_42 : decode cX3_reaching 42 = .ok (.iload 5, 2) := by decide +kernel
theorem dX3_reaching_44 : decode cX3_reaching 44 = .ok (.ishl, 1) := by decide +kernel
theorem dX3_reaching_45 : decode cX3_reaching 45 = .ok (.ior, 1) := by decide +kernel
theorem dX3_reaching_46 : decode cX3_reaching 46 = .ok (.istore 4, 2) := by decide +kernel
theorem dX3_reaching_48 : decode cX3_reaching 48 = .ok (.iinc 5 1, 3) := by decide +kernel
theorem dX3_reaching_51 : decode cX3_reaching 51 = .ok (.goto (-45), 3) := by decide +kernel
theorem dX3_reaching_54 : decode cX3_reaching 54 = .ok (.iload 4, 2) := by decide +kernel
theorem dX3_reaching_56 : decode cX3_reaching 56 = .ok (.ireturn, 1) := by decide +kernel
theorem dX3_strongest_0 : decode cX3_strongest 0 = .ok (.iconst 0, 1) := by decide +kernel
theorem dX3_strongest_1 : decode cX3_strongest 1 = .ok (.istore_n 3, 1) := by decide +kernel
theorem dX3_strongest_2 : decode cX3_strongest 2 = .ok (.iconst 0, 1) := by decide +kernel
theorem dX3_strongest_3 : decode cX3_strongest 3 = .ok (.istore 4, 2) := by decide +kernel
theorem dX3_strongest_5 : decode cX3_strongest 5 = .ok (.iload 4, 2) := by decide +kernel
theorem dX3_strongest_7 : decode cX3_strongest 7 = .ok (.aload_n 0, 1) := by decide +kernel
theorem dX3_strongest_8 : decode cX3_strongest 8 = .ok (.getfield 55, 3) := by decide +kernel
theorem dX3_strongest_11 : decode cX3_strongest 11 = .ok (.getfield 87, 3) := by decide +kernel
theorem dX3_strongest_14 : decode cX3_strongest 14 = .ok (.if_icmp .ge 36, 3) := by decide +kernel
theorem dX3_strongest_17 : decode cX3_strongest 17 = .ok (.iload_n 2, 1) := by decide +kernel
theorem dX3_strongest_18 : decode cX3_strongest 18 = .ok (.iload 4, 2) := by decide +kernel
theorem dX3_strongest_20 : decode cX3_strongest 20 = .ok (.ishr, 1) := by decide +kernel
theorem dX3_strongest_21 : decode cX3_strongest 21 = .ok (.iconst 1, 1) := by decide +kernel
theorem dX3_strongest_22 : decode cX3_strongest 22 = .ok (.iand, 1) := by decide +kernel
theorem dX3_strongest_23 : decode cX3_strongest 23 = .ok (.iconst 1, 1) := by decide +kernel
theorem dX3_strongest_24 : decode cX3_strongest 24 = .ok (.if_icmp .ne 20, 3) := by decide +kernel
theorem dX3_strongest_27 : decode cX3_strongest 27 = .ok (.iload_n 3, 1) := by decide +kernel
theorem dX3_strongest_28 : decode cX3_strongest 28 = .ok (.aload_n 0, 1) := by decide +kernel
theorem dX3_strongest_29 : decode cX3_strongest 29 = .ok (.getfield 33, 3) := by decide +kernel
theorem dX3_strongest_32 : decode cX3_strongest 32 = .ok (.iload_n 1, 1) := by decide +kernel
theorem dX3_strongest_33 : decode cX3_strongest 33 = .ok (.bipush 7, 2) := by decide +kernel
theorem dX3_strongest_35 : decode cX3_strongest 35 = .ok (.imul, 1) := by decide +kernel
theorem dX3_strongest_36 : decode cX3_strongest 36 = .ok (.iload 4, 2) := by decide +kernel
theorem dX3_strongest_38 : decode cX3_strongest 38 = .ok (.iadd, 1) := by decide +kernel
theorem dX3_strongest_39 : decode cX3_strongest 39 = .ok (.iaload, 1) := by decide +kernel
theorem dX3_strongest_40 : decode cX3_strongest 40 = .ok (.invokestatic 82, 3) := by decide +kernel
theorem dX3_strongest_43 : decode cX3_strongest 43 = .ok (.istore_n 3, 1) := by decide +kernel
theorem dX3_strongest_44 : decode cX3_strongest 44 = .ok (.iinc 4 1, 3) := by decide +kernel
theorem dX3_strongest_47 : decode cX3_strongest 47 = .ok (.goto (-42), 3) := by decide +kernel
theorem dX3_strongest_50 : decode cX3_strongest 50 = .ok (.iload_n 3, 1) := by decide +kernel
theorem dX3_strongest_51 : decode cX3_strongest 51 = .ok (.ireturn, 1) := by decide +kernel
theorem dX3_holder_0 : decode cX3_holder 0 = .ok (.iconst 0, 1) := by decide +kernel
theorem dX3_holder_1 : decode cX3_holder 1 = .ok (.istore 4, 2) := by decide +kernel
theorem dX3_holder_3 : decode cX3_holder 3 = .ok (.iconst (-1), 1) := by decide +kernel
theorem dX3_holder_4 : decode cX3_holder 4 = .ok (.istore 5, 2) := by decide +kernel
theorem dX3_holder_6 : decode cX3_holder 6 = .ok (.iconst 0, 1) := by decide +kernel
theorem dX3_holder_7 : decode cX3_holder 7 = .ok (.istore 6, 2) := by decide +kernel
theorem dX3_holder_9 : decode cX3_holder 9 = .ok (.iload 6, 2) := by decide +kernel
theorem dX3_holder_11 : decode cX3_holder 11 = .ok (.aload_n 0, 1) := by decide +kernel
theorem dX3_holder_12 : decode cX3_holder 12 = .ok (.getfield 55, 3) := by decide +kernel
theorem dX3_holder_15 : decode cX3_holder 15 = .ok (.getfield 87, 3) := by decide +kernel
theorem dX3_holder_18 : decode cX3_holder 18 = .ok (.if_icmp .ge 89, 3) := by decide +kernel
theorem dX3_holder_21 : decode cX3_holder 21 = .ok (.iload 6, 2) := by decide +kernel
theorem dX3_holder_23 : decode cX3_holder 23 = .ok (.aload_n 3, 1) := by decide +kernel
theorem dX3_holder_24 : decode cX3_holder 24 = .ok (.arraylength, 1) := by decide +kernel
theorem dX3_holder_25 : decode cX3_holder 25 = .ok (.if_icmp .ge 82, 3) := by decide +kernel
theorem dX3_holder_28 : decode cX3_holder 28 = .ok (.iload_n 2, 1) := by decide +kernel
theorem dX3_holder_29 : decode cX3_holder 29 = .ok (.iload 6, 2) := by decide +kernel
theorem dX3_holder_31 : decode cX3_holder 31 = .ok (.ishr, 1) := by decide +kernel
theorem dX3_holder_32 : decode cX3_holder 32 = .ok (.iconst 1, 1) := by decide +kernel
theorem dX3_holder_33 : decode cX3_holder 33 = .ok (.iand, 1) := by decide +kernel
theorem dX3_holder_34 : decode cX3_holder 34 = .ok (.iconst 1, 1) := by decide +kernel
theorem dX3_holder_35 : decode cX3_holder 35 = .ok (.if_icmp .ne 18, 3) := by decide +kernel
theorem dX3_holder_38 : decode cX3_holder 38 = .ok (.aload_n 0, 1) := by decide +kernel
theorem dX3_holder_39 : decode cX3_holder 39 = .ok (.getfield 33, 3) := by decide +kernel
theorem dX3_holder_42 : decode cX3_holder 42 = .ok (.iload_n 1, 1) := by decide +kernel
theorem dX3_holder_43 : decode cX3_holder 43 = .ok (.bipush 7, 2) := by decide +kernel
theorem dX3_holder_45 : decode cX3_holder 45 = .ok (.imul, 1) := by decide +kernel
theorem dX3_holder_46 : decode cX3_holder 46 = .ok (.iload 6, 2) := by decide +kernel
theorem dX3_holder_48 : decode cX3_holder 48 = .ok (.iadd, 1) := by decide +kernel
theorem dX3_holder_49 : decode cX3_holder 49 = .ok (.iaload, 1) := by decide +kernel
theorem dX3_holder_50 : decode cX3_holder 50 = .ok (.goto 4, 3) := by decide +kernel
theorem dX3_holder_53 : decode cX3_holder 53 = .ok (.iconst 0, 1) := by decide +kernel
theorem dX3_holder_54 : decode cX3_holder 54 = .ok (.istore 7, 2) := by decide +kernel
theorem dX3_holder_56 : decode cX3_holder 56 = .ok (.iload 7, 2) := by decide +kernel
theorem dX3_holder_58 : decode cX3_holder 58 = .ok (.iload 4, 2) := by decide +kernel
theorem dX3_holder_60 : decode cX3_holder 60 = .ok (.if_icmp .le 16, 3) := by decide +kernel
theorem dX3_holder_63 : decode cX3_holder 63 = .ok (.iload 7, 2) := by decide +kernel
theorem dX3_holder_65 : decode cX3_holder 65 = .ok (.istore 4, 2) := by decide +kernel
theorem dX3_holder_67 : decode cX3_holder 67 = .ok (.aload_n 3, 1) := by decide +kernel
theorem dX3_holder_68 : decode cX3_holder 68 = .ok (.iload 6, 2) := by decide +kernel
theorem dX3_holder_70 : decode cX3_holder 70 = .ok (.iaload, 1) := by decide +kernel
theorem dX3_holder_71 : decode cX3_holder 71 = .ok (.istore 5, 2) := by decide +kernel
theorem dX3_holder_73 : decode cX3_holder 73 = .ok (.goto 28, 3) := by decide +kernel
theorem dX3_holder_76 : decode cX3_holder 76 = .ok (.iload 7, 2) := by decide +kernel
theorem dX3_holder_78 : decode cX3_holder 78 = .ok (.ifCond .le 23, 3) := by decide +kernel
theorem dX3_holder_81 : decode cX3_holder 81 = .ok (.iload 7, 2) := by decide +kernel
theorem dX3_holder_83 : decode cX3_holder 83 = .ok (.iload 4, 2) := by decide +kernel
theorem dX3_holder_85 : decode cX3_holder 85 = .ok (.if_icmp .ne 16, 3) := by decide +kernel
theorem dX3_holder_88 : decode cX3_holder 88 = .ok (.aload_n 3, 1) := by decide +kernel
theorem dX3_holder_89 : decode cX3_holder 89 = .ok (.iload 6, 2) := by decide +kernel
theorem dX3_holder_91 : decode cX3_holder 91 = .ok (.iaload, 1) := by decide +kernel
theorem dX3_holder_92 : decode cX3_holder 92 = .ok (.iload 5, 2) := by decide +kernel
theorem dX3_holder_94 : decode cX3_holder 94 = .ok (.if_icmp .eq 7, 3) := by decide +kernel
theorem dX3_holder_97 : decode cX3_holder 97 = .ok (.bipush (-2), 2) := by decide +kernel
theorem dX3_holder_99 : decode cX3_holder 99 = .ok (.istore 5, 2) := by decide +kernel
theorem dX3_holder_101 : decode cX3_holder 101 = .ok (.iinc 6 1, 3) := by decide +kernel
theorem dX3_holder_104 : decode cX3_holder 104 = .ok (.goto (-95), 3) := by decide +kernel
theorem dX3_holder_107 : decode cX3_holder 107 = .ok (.iload 5, 2) := by decide +kernel
theorem dX3_holder_109 : decode cX3_holder 109 = .ok (.ireturn, 1) := by decide +kernel
theorem dX3_pick_0 : decode cX3_pick 0 = .ok (.iconst 0, 1) := by decide +kernel
theorem dX3_pick_1 : decode cX3_pick 1 = .ok (.istore_n 3, 1) := by decide +kernel
theorem dX3_pick_2 : decode cX3_pick 2 = .ok (.iconst 0, 1) := by decide +kernel
theorem dX3_pick_3 : decode cX3_pick 3 = .ok (.istore 4, 2) := by decide +kernel
theorem dX3_pick_5 : decode cX3_pick 5 = .ok (.iload 4, 2) := by decide +kernel
theorem dX3_pick_7 : decode cX3_pick 7 = .ok (.bipush 64, 2) := by decide +kernel
theorem dX3_pick_9 : decode cX3_pick 9 = .ok (.if_icmp .ge 44, 3) := by decide +kernel
theorem dX3_pick_12 : decode cX3_pick 12 = .ok (.aload_n 0, 1) := by decide +kernel
theorem dX3_pick_13 : decode cX3_pick 13 = .ok (.iload 4, 2) := by decide +kernel
theorem dX3_pick_15 : decode cX3_pick 15 = .ok (.aload_n 0, 1) := by decide +kernel
theorem dX3_pick_16 : decode cX3_pick 16 = .ok (.getfield 55, 3) := by decide +kernel
theorem dX3_pick_19 : decode cX3_pick 19 = .ok (.getfield 101, 3) := by decide +kernel
theorem dX3_pick_22 : decode cX3_pick 22 = .ok (.aload_n 0, 1) := by decide +kernel
theorem dX3_pick_23 : decode cX3_pick 23 = .ok (.getfield 55, 3) := by decide +kernel
theorem dX3_pick_26 : decode cX3_pick 26 = .ok (.getfield 104, 3) := by decide +kernel
theorem dX3_pick_29 : decode cX3_pick 29 = .ok (.invokevirtual 107, 3) := by decide +kernel
theorem dX3_pick_32 : decode cX3_pick 32 = .ok (.iload_n 1, 1) := by decide +kernel
theorem dX3_pick_33 : decode cX3_pick 33 = .ok (.if_icmp .ne 14, 3) := by decide +kernel
theorem dX3_pick_36 : decode cX3_pick 36 = .ok (.iload_n 3, 1) := by decide +kernel
theorem dX3_pick_37 : decode cX3_pick 37 = .ok (.iload_n 2, 1) := by decide +kernel
theorem dX3_pick_38 : decode cX3_pick 38 = .ok (.if_icmp .ne 6, 3) := by decide +kernel
theorem dX3_pick_41 : decode cX3_pick 41 = .ok (.iload 4, 2) := by decide +kernel
theorem dX3_pick_43 : decode cX3_pick 43 = .ok (.ireturn, 1) := by decide +kernel
theorem dX3_pick_44 : decode cX3_pick 44 = .ok (.iinc 3 1, 3) := by decide +kernel
theorem dX3_pick_47 : decode cX3_pick 47 = .ok (.iinc 4 1, 3) := by decide +kernel
theorem dX3_pick_50 : decode cX3_pick 50 = .ok (.goto (-45), 3) := by decide +kernel
theorem dX3_pick_53 : decode cX3_pick 53 = .ok (.iload_n 2, 1) := by decide +kernel
theorem dX3_pick_54 : decode cX3_pick 54 = .ok (.iconst (-1), 1) := by decide +kernel
theorem dX3_pick_55 : decode cX3_pick 55 = .ok (.if_icmp .ne 7, 3) := by decide +kernel
theorem dX3_pick_58 : decode cX3_pick 58 = .ok (.iload_n 3, 1) := by decide +kernel
theorem dX3_pick_59 : decode cX3_pick 59 = .ok (.goto 5, 3) := by decide +kernel
theorem dX3_pick_62 : decode cX3_pick 62 = .ok (.bipush (-5), 2) := by decide +kernel
theorem dX3_pick_64 : decode cX3_pick 64 = .ok (.ireturn, 1) := by decide +kernel
theorem dX3_acresOf_0 : decode cX3_acresOf 0 = .ok (.iconst 0, 1) := by decide +kernel
theorem dX3_acresOf_1 : decode cX3_acresOf 1 = .ok (.istore 4, 2) := by decide +kernel
theorem dX3_acresOf_3 : decode cX3_acresOf 3 = .ok (.iconst 0, 1) := by decide +kernel
theorem dX3_acresOf_4 : decode cX3_acresOf 4 = .ok (.istore 5, 2) := by decide +kernel
theorem dX3_acresOf_6 : decode cX3_acresOf 6 = .ok (.iload 5, 2) := by decide +kernel
theorem dX3_acresOf_8 : decode cX3_acresOf 8 = .ok (.bipush 64, 2) := by decide +kernel
theorem dX3_acresOf_10 : decode cX3_acresOf 10 = .ok (.if_icmp .ge 24, 3) := by decide +kernel
theorem dX3_acresOf_13 : decode cX3_acresOf 13 = .ok (.aload_n 0, 1) := by decide +kernel
theorem dX3_acresOf_14 : decode cX3_acresOf 14 = .ok (.iload 5, 2) := by decide +kernel
theorem dX3_acresOf_16 : decode cX3_acresOf 16 = .ok (.iload_n 2, 1) := by decide +kernel
theorem dX3_acresOf_17 : decode cX3_acresOf 17 = .ok (.aload_n 3, 1) := by decide +kernel
theorem dX3_acresOf_18 : decode cX3_acresOf 18 = .ok (.invokevirtual 107, 3) := by decide +kernel
theorem dX3_acresOf_21 : decode cX3_acresOf 21 = .ok (.iload_n 1, 1) := by decide +kernel
theorem dX3_acresOf_22 : decode cX3_acresOf 22 = .ok (.if_icmp .ne 6, 3) := by decide +kernel
theorem dX3_acresOf_25 : decode cX3_acresOf 25 = .ok (.iinc 4 1, 3) := by decide +kernel
theorem dX3_acresOf_28 : decode cX3_acresOf 28 = .ok (.iinc 5 1, 3) := by decide +kernel
theorem dX3_acresOf_31 : decode cX3_acresOf 31 = .ok (.goto (-25), 3) := by decide +kernel
theorem dX3_acresOf_34 : decode cX3_acresOf 34 = .ok (.iload 4, 2) := by decide +kernel
theorem dX3_acresOf_36 : decode cX3_acresOf 36 = .ok (.ireturn, 1) := by decide +kernel
theorem dX3_gainByWedding_0 : decode cX3_gainByWedding 0 = .ok (.iconst 0, 1) := by decide +kernel
theorem dX3_gainByWedding_1 : decode cX3_gainByWedding 1 = .ok (.istore_n 3, 1) := by decide +kernel
theorem dX3_gainByWedding_2 : decode cX3_gainByWedding 2 = .ok (.iload_n 3, 1) := by decide +kernel
theorem dX3_gainByWedding_3 : decode cX3_gainByWedding 3 = .ok (.bipush 7, 2) := by decide +kernel
theorem dX3_gainByWedding_5 : decode cX3_gainByWedding 5 = .ok (.if_icmp .ge 41, 3) := by decide +kernel
theorem dX3_gainByWedding_8 : decode cX3_gainByWedding 8 = .ok (.aload_n 0, 1) := by decide +kernel
theorem dX3_gainByWedding_9 : decode cX3_gainByWedding 9 = .ok (.getfield 37, 3) := by decide +kernel
theorem dX3_gainByWedding_12 : decode cX3_gainByWedding 12 = .ok (.iload_n 3, 1) := by decide +kernel
theorem dX3_gainByWedding_13 : decode cX3_gainByWedding 13 = .ok (.aload_n 0, 1) := by decide +kernel
theorem dX3_gainByWedding_14 : decode cX3_gainByWedding 14 = .ok (.getfield 55, 3) := by decide +kernel
theorem dX3_gainByWedding_17 : decode cX3_gainByWedding 17 = .ok (.getfield 104, 3) := by decide +kernel
theorem dX3_gainByWedding_20 : decode cX3_gainByWedding 20 = .ok (.iload_n 3, 1) := by decide +kernel
theorem dX3_gainByWedding_21 : decode cX3_gainByWedding 21 = .ok (.iaload, 1) := by decide +kernel
theorem dX3_gainByWedding_22 : decode cX3_gainByWedding 22 = .ok (.iload_n 2, 1) := by decide +kernel
theorem dX3_gainByWedding_23 : decode cX3_gainByWedding 23 = .ok (.if_icmp .ne 7, 3) := by decide +kernel
theorem dX3_gainByWedding_26 : decode cX3_gainByWedding 26 = .ok (.iload_n 1, 1) := by decide +kernel
theorem dX3_gainByWedding_27 : decode cX3_gainByWedding 27 = .ok (.goto 12, 3) := by decide +kernel
theorem dX3_gainByWedding_30 : decode cX3_gainByWedding 30 = .ok (.aload_n 0, 1) := by decide +kernel
theorem dX3_gainByWedding_31 : decode cX3_gainByWedding 31 = .ok (.getfield 55, 3) := by decide +kernel
theorem dX3_gainByWedding_34 : decode cX3_gainByWedding 34 = .ok (.getfield 104, 3) := by decide +kernel
theorem dX3_gainByWedding_37 : decode cX3_gainByWedding 37 = .ok (.iload_n 3, 1) := by decide +kernel
theorem dX3_gainByWedding_38 : decode cX3_gainByWedding 38 = .ok (.iaload, 1) := by decide +kernel
theorem dX3_gainByWedding_39 : decode cX3_gainByWedding 39 = .ok (.iastore, 1) := by decide +kernel
theorem dX3_gainByWedding_40 : decode cX3_gainByWedding 40 = .ok (.iinc 3 1, 3) := by decide +kernel
theorem dX3_gainByWedding_43 : decode cX3_gainByWedding 43 = .ok (.goto (-41), 3) := by decide +kernel
theorem dX3_gainByWedding_46 : decode cX3_gainByWedding 46 = .ok (.aload_n 0, 1) := by decide +kernel
theorem dX3_gainByWedding_47 : decode cX3_gainByWedding 47 = .ok (.iload_n 1, 1) := by decide +kernel
theorem dX3_gainByWedding_48 : decode cX3_gainByWedding 48 = .ok (.aload_n 0, 1) := by decide +kernel
theorem dX3_gainByWedding_49 : decode cX3_gainByWedding 49 = .ok (.getfield 55, 3) := by decide +kernel
theorem dX3_gainByWedding_52 : decode cX3_gainByWedding 52 = .ok (.getfield 101, 3) := by decide +kernel
theorem dX3_gainByWedding_55 : decode cX3_gainByWedding 55 = .ok (.aload_n 0, 1) := by decide +kernel
theorem dX3_gainByWedding_56 : decode cX3_gainByWedding 56 = .ok (.getfield 55, 3) := by decide +kernel
theorem dX3_gainByWedding_59 : decode cX3_gainByWedding 59 = .ok (.getfield 104, 3) := by decide +kernel
theorem dX3_gainByWedding_62 : decode cX3_gainByWedding 62 = .ok (.invokevirtual 111, 3) := by decide +kernel
theorem dX3_gainByWedding_65 : decode cX3_gainByWedding 65 = .ok (.aload_n 0, 1) := by decide +kernel
theorem dX3_gainByWedding_66 : decode cX3_gainByWedding 66 = .ok (.iload_n 2, 1) := by decide +kernel
theorem dX3_gainByWedding_67 : decode cX3_gainByWedding 67 = .ok (.aload_n 0, 1) := by decide +kernel
theorem dX3_gainByWedding_68 : decode cX3_gainByWedding 68 = .ok (.getfield 55, 3) := by decide +kernel
theorem dX3_gainByWedding_71 : decode cX3_gainByWedding 71 = .ok (.getfield 101, 3) := by decide +kernel
theorem dX3_gainByWedding_74 : decode cX3_gainByWedding 74 = .ok (.aload_n 0, 1) := by decide +kernel
theorem dX3_gainByWedding_75 : decode cX3_gainByWedding 75 = .ok (.getfield 55, 3) := by decide +kernel
theorem dX3_gainByWedding_78 : decode cX3_gainByWedding 78 = .ok (.getfield 104, 3) := by decide +kernel
theorem dX3_gainByWedding_81 : decode cX3_gainByWedding 81 = .ok (.invokevirtual 111, 3) := by decide +kernel
theorem dX3_gainByWedding_84 : decode cX3_gainByWedding 84 = .ok (.iadd, 1) := by decide +kernel
theorem dX3_gainByWedding_85 : decode cX3_gainByWedding 85 = .ok (.istore_n 3, 1) := by decide +kernel
theorem dX3_gainByWedding_86 : decode cX3_gainByWedding 86 = .ok (.aload_n 0, 1) := by decide +kernel
theorem dX3_gainByWedding_87 : decode cX3_gainByWedding 87 = .ok (.iload_n 1, 1) := by decide +kernel
theorem dX3_gainByWedding_88 : decode cX3_gainByWedding 88 = .ok (.aload_n 0, 1) := by decide +kernel
theorem dX3_gainByWedding_89 : decode cX3_gainByWedding 89 = .ok (.getfield 55, 3) := by decide +kernel
theorem dX3_gainByWedding_92 : decode cX3_gainByWedding 92 = .ok (.getfield 101, 3) := by decide +kernel
theorem dX3_gainByWedding_95 : decode cX3_gainByWedding 95 = .ok (.aload_n 0, 1) := by decide +kernel
theorem dX3_gainByWedding_96 : decode cX3_gainByWedding 96 = .ok (.getfield 37, 3) := by decide +kernel
theorem dX3_gainByWedding_99 : decode cX3_gainByWedding 99 = .ok (.invokevirtual 111, 3) := by decide +kernel
theorem dX3_gainByWedding_102 : decode cX3_gainByWedding 102 = .ok (.iload_n 3, 1) := by decide +kernel
theorem dX3_gainByWedding_103 : decode cX3_gainByWedding 103 = .ok (.isub, 1) := by decide +kernel
theorem dX3_gainByWedding_104 : decode cX3_gainByWedding 104 = .ok (.ireturn, 1) := by decide +kernel
theorem dX3_candlesOf_0 : decode cX3_candlesOf 0 = .ok (.iconst 0, 1) := by decide +kernel
theorem dX3_candlesOf_1 : decode cX3_candlesOf 1 = .ok (.istore_n 2, 1) := by decide +kernel
theorem dX3_candlesOf_2 : decode cX3_candlesOf 2 = .ok (.iconst 0, 1) := by decide +kernel
theorem dX3_candlesOf_3 : decode cX3_candlesOf 3 = .ok (.istore_n 3, 1) := by decide +kernel
theorem dX3_candlesOf_4 : decode cX3_candlesOf 4 = .ok (.iload_n 3, 1) := by decide +kernel
theorem dX3_candlesOf_5 : decode cX3_candlesOf 5 = .ok (.aload_n 0, 1) := by decide +kernel
theorem dX3_candlesOf_6 : decode cX3_candlesOf 6 = .ok (.getfield 55, 3) := by decide +kernel
theorem dX3_candlesOf_9 : decode cX3_candlesOf 9 = .ok (.getfield 87, 3) := by decide +kernel
theorem dX3_candlesOf_12 : decode cX3_candlesOf 12 = .ok (.if_icmp .ge 28, 3) := by decide +kernel
theorem dX3_candlesOf_15 : decode cX3_candlesOf 15 = .ok (.aload_n 0, 1) := by decide +kernel
theorem dX3_candlesOf_16 : decode cX3_candlesOf 16 = .ok (.getfield 55, 3) := by decide +kernel
theorem dX3_candlesOf_19 : decode cX3_candlesOf 19 = .ok (.getfield 104, 3) := by decide +kernel
theorem dX3_candlesOf_22 : decode cX3_candlesOf 22 = .ok (.iload_n 3, 1) := by decide +kernel
theorem dX3_candlesOf_23 : decode cX3_candlesOf 23 = .ok (.iaload, 1) := by decide +kernel
theorem dX3_candlesOf_24 : decode cX3_candlesOf 24 = .ok (.iload_n 1, 1) := by decide +kernel
theorem dX3_candlesOf_25 : decode cX3_candlesOf 25 = .ok (.if_icmp .ne 9, 3) := by decide +kernel
theorem dX3_candlesOf_28 : decode cX3_candlesOf 28 = .ok (.iload_n 2, 1) := by decide +kernel
theorem dX3_candlesOf_29 : decode cX3_candlesOf 29 = .ok (.iconst 1, 1) := by decide +kernel
theorem dX3_candlesOf_30 : decode cX3_candlesOf 30 = .ok (.iload_n 3, 1) := by decide +kernel
theorem dX3_candlesOf_31 : decode cX3_candlesOf 31 = .ok (.ishl, 1) := by decide +kernel
theorem dX3_candlesOf_32 : decode cX3_candlesOf 32 = .ok (.ior, 1) := by decide +kernel
theorem dX3_candlesOf_33 : decode cX3_candlesOf 33 = .ok (.istore_n 2, 1) := by decide +kernel
theorem dX3_candlesOf_34 : decode cX3_candlesOf 34 = .ok (.iinc 3 1, 3) := by decide +kernel
theorem dX3_candlesOf_37 : decode cX3_candlesOf 37 = .ok (.goto (-33), 3) := by decide +kernel
theorem dX3_candlesOf_40 : decode cX3_candlesOf 40 = .ok (.iload_n 2, 1) := by decide +kernel
theorem dX3_candlesOf_41 : decode cX3_candlesOf 41 = .ok (.ireturn, 1) := by decide +kernel
theorem dX3_resting_0 : decode cX3_resting 0 = .ok (.aload_n 0, 1) := by decide +kernel
theorem dX3_resting_1 : decode cX3_resting 1 = .ok (.iload_n 1, 1) := by decide +kernel
theorem dX3_resting_2 : decode cX3_resting 2 = .ok (.invokevirtual 114, 3) := by decide +kernel
theorem dX3_resting_5 : decode cX3_resting 5 = .ok (.istore 4, 2) := by decide +kernel
theorem dX3_resting_7 : decode cX3_resting 7 = .ok (.aload_n 0, 1) := by decide +kernel
theorem dX3_resting_8 : decode cX3_resting 8 = .ok (.iload_n 2, 1) := by decide +kernel
theorem dX3_resting_9 : decode cX3_resting 9 = .ok (.invokevirtual 114, 3) := by decide +kernel
theorem dX3_resting_12 : decode cX3_resting 12 = .ok (.istore 5, 2) := by decide +kernel
theorem dX3_resting_14 : decode cX3_resting 14 = .ok (.aload_n 0, 1) := by decide +kernel
theorem dX3_resting_15 : decode cX3_resting 15 = .ok (.getfield 55, 3) := by decide +kernel
theorem dX3_resting_18 : decode cX3_resting 18 = .ok (.getfield 101, 3) := by decide +kernel
theorem dX3_resting_21 : decode cX3_resting 21 = .ok (.iload 4, 2) := by decide +kernel
theorem dX3_resting_23 : decode cX3_resting 23 = .ok (.iconst (-1), 1) := by decide +kernel
theorem dX3_resting_24 : decode cX3_resting 24 = .ok (.ixor, 1) := by decide +kernel
theorem dX3_resting_25 : decode cX3_resting 25 = .ok (.iand, 1) := by decide +kernel
theorem dX3_resting_26 : decode cX3_resting 26 = .ok (.iload 5, 2) := by decide +kernel
theorem dX3_resting_28 : decode cX3_resting 28 = .ok (.iconst (-1), 1) := by decide +kernel
theorem dX3_resting_29 : decode cX3_resting 29 = .ok (.ixor, 1) := by decide +kernel
theorem dX3_resting_30 : decode cX3_resting 30 = .ok (.iand, 1) := by decide +kernel
theorem dX3_resting_31 : decode cX3_resting 31 = .ok (.istore 6, 2) := by decide +kernel
theorem dX3_resting_33 : decode cX3_resting 33 = .ok (.iconst 0, 1) := by decide +kernel
theorem dX3_resting_34 : decode cX3_resting 34 = .ok (.istore 7, 2) := by decide +kernel
theorem dX3_resting_36 : decode cX3_resting 36 = .ok (.iload 7, 2) := by decide +kernel
theorem dX3_resting_38 : decode cX3_resting 38 = .ok (.iconst 4, 1) := by decide +kernel
theorem dX3_resting_39 : decode cX3_resting 39 = .ok (.if_icmp .ge 113, 3) := by decide +kernel
theorem dX3_resting_42 : decode cX3_resting 42 = .ok (.iload 7, 2) := by decide +kernel
theorem dX3_resting_44 : decode cX3_resting 44 = .ok (.iconst 1, 1) := by decide +kernel
theorem dX3_resting_45 : decode cX3_resting 45 = .ok (.iand, 1) := by decide +kernel
theorem dX3_resting_46 : decode cX3_resting 46 = .ok (.ifCond .eq 8, 3) := by decide +kernel
theorem dX3_resting_49 : decode cX3_resting 49 = .ok (.iload 4, 2) := by decide +kernel
theorem dX3_resting_51 : decode cX3_resting 51 = .ok (.goto 4, 3) := by decide +kernel
theorem dX3_resting_54 : decode cX3_resting 54 = .ok (.iconst 0, 1) := by decide +kernel
theorem dX3_resting_55 : decode cX3_resting 55 = .ok (.istore 8, 2) := by decide +kernel
theorem dX3_resting_57 : decode cX3_resting 57 = .ok (.iload 7, 2) := by decide +kernel
theorem dX3_resting_59 : decode cX3_resting 59 = .ok (.iconst 2, 1) := by decide +kernel
theorem dX3_resting_60 : decode cX3_resting 60 = .ok (.iand, 1) := by decide +kernel
theorem dX3_resting_61 : decode cX3_resting 61 = .ok (.ifCond .eq 8, 3) := by decide +kernel
theorem dX3_resting_64 : decode cX3_resting 64 = .ok (.iload 5, 2) := by decide +kernel
theorem dX3_resting_66 : decode cX3_resting 66 = .ok (.goto 4, 3) := by decide +kernel
theorem dX3_resting_69 : decode cX3_resting 69 = .ok (.iconst 0, 1) := by decide +kernel
theorem dX3_resting_70 : decode cX3_resting 70 = .ok (.istore 9, 2) := by decide +kernel
theorem dX3_resting_72 : decode cX3_resting 72 = .ok (.iload 6, 2) := by decide +kernel
theorem dX3_resting_74 : decode cX3_resting 74 = .ok (.iload 8, 2) := by decide +kernel
theorem dX3_resting_76 : decode cX3_resting 76 = .ok (.ior, 1) := by decide +kernel
theorem dX3_resting_77 : decode cX3_resting 77 = .ok (.iload 9, 2) := by decide +kernel
theorem dX3_resting_79 : decode cX3_resting 79 = .ok (.ior, 1) := by decide +kernel
theorem dX3_resting_80 : decode cX3_resting 80 = .ok (.istore 10, 2) := by decide +kernel
theorem dX3_resting_82 : decode cX3_resting 82 = .ok (.aload_n 0, 1) := by decide +kernel
theorem dX3_resting_83 : decode cX3_resting 83 = .ok (.getfield 49, 3) := by decide +kernel
theorem dX3_resting_86 : decode cX3_resting 86 = .ok (.iload 7, 2) := by decide +kernel
theorem dX3_resting_88 : decode cX3_resting 88 = .ok (.aload_n 0, 1) := by decide +kernel
theorem dX3_resting_89 : decode cX3_resting 89 = .ok (.iload_n 1, 1) := by decide +kernel
theorem dX3_resting_90 : decode cX3_resting 90 = .ok (.iload 10, 2) := by decide +kernel
theorem dX3_resting_92 : decode cX3_resting 92 = .ok (.aload_n 0, 1) := by decide +kernel
theorem dX3_resting_93 : decode cX3_resting 93 = .ok (.getfield 55, 3) := by decide +kernel
theorem dX3_resting_96 : decode cX3_resting 96 = .ok (.getfield 104, 3) := by decide +kernel
theorem dX3_resting_99 : decode cX3_resting 99 = .ok (.invokevirtual 111, 3) := by decide +kernel
theorem dX3_resting_102 : decode cX3_resting 102 = .ok (.iload_n 3, 1) := by decide +kernel
theorem dX3_resting_103 : decode cX3_resting 103 = .ok (.iload 8, 2) := by decide +kernel
theorem dX3_resting_105 : decode cX3_resting 105 = .ok (.invokestatic 117, 3) := by decide +kernel
theorem dX3_resting_108 : decode cX3_resting 108 = .ok (.imul, 1) := by decide +kernel
theorem dX3_resting_109 : decode cX3_resting 109 = .ok (.bipush 10, 2) := by decide +kernel
theorem dX3_resting_111 : decode cX3_resting 111 = .ok (.idiv, 1) := by decide +kernel
theorem dX3_resting_112 : decode cX3_resting 112 = .ok (.isub, 1) := by decide +kernel
theorem dX3_resting_113 : decode cX3_resting 113 = .ok (.iastore, 1) := by decide +kernel
theorem dX3_resting_114 : decode cX3_resting 114 = .ok (.aload_n 0, 1) := by decide +kernel
theorem dX3_resting_115 : decode cX3_resting 115 = .ok (.getfield 52, 3) := by decide +kernel
theorem dX3_resting_118 : decode cX3_resting 118 = .ok (.iload 7, 2) := by decide +kernel
theorem dX3_resting_120 : decode cX3_resting 120 = .ok (.aload_n 0, 1) := by decide +kernel
theorem dX3_resting_121 : decode cX3_resting 121 = .ok (.iload_n 2, 1) := by decide +kernel
theorem dX3_resting_122 : decode cX3_resting 122 = .ok (.iload 10, 2) := by decide +kernel
theorem dX3_resting_124 : decode cX3_resting 124 = .ok (.aload_n 0, 1) := by decide +kernel
theorem dX3_resting_125 : decode cX3_resting 125 = .ok (.getfield 55, 3) := by decide +kernel
theorem dX3_resting_128 : decode cX3_resting 128 = .ok (.getfield 104, 3) := by decide +kernel
theorem dX3_resting_131 : decode cX3_resting 131 = .ok (.invokevirtual 111, 3) := by decide +kernel
theorem dX3_resting_134 : decode cX3_resting 134 = .ok (.iload_n 3, 1) := by decide +kernel
theorem dX3_resting_135 : decode cX3_resting 135 = .ok (.iload 9, 2) := by decide +kernel
theorem dX3_resting_137 : decode cX3_resting 137 = .ok (.invokestatic 117, 3) := by decide +kernel
theorem dX3_resting_140 : decode cX3_resting 140 = .ok (.imul, 1) := by decide +kernel
theorem dX3_resting_141 : decode cX3_resting 141 = .ok (.bipush 10, 2) := by decide +kernel
theorem dX3_resting_143 : decode cX3_resting 143 = .ok (.idiv, 1) := by decide +kernel
theorem dX3_resting_144 : decode cX3_resting 144 = .ok (.isub, 1) := by decide +kernel
theorem dX3_resting_145 : decode cX3_resting 145 = .ok (.iastore, 1) := by decide +kernel
theorem dX3_resting_146 : decode cX3_resting 146 = .ok (.iinc 7 1, 3) := by decide +kernel
theorem dX3_resting_149 : decode cX3_resting 149 = .ok (.goto (-113), 3) := by decide +kernel
theorem dX3_resting_152 : decode cX3_resting 152 = .ok (.iconst 0, 1) := by decide +kernel
theorem dX3_resting_153 : decode cX3_resting 153 = .ok (.istore 7, 2) := by decide +kernel
theorem dX3_resting_155 : decode cX3_resting 155 = .ok (.iconst 0, 1) := by decide +kernel
theorem dX3_resting_156 : decode cX3_resting 156 = .ok (.istore 8, 2) := by decide +kernel
theorem dX3_resting_158 : decode cX3_resting 158 = .ok (.iload 8, 2) := by decide +kernel
theorem dX3_resting_160 : decode cX3_resting 160 = .ok (.iconst 4, 1) := by decide +kernel
theorem dX3_resting_161 : decode cX3_resting 161 = .ok (.if_icmp .ge 56, 3) := by decide +kernel
theorem dX3_resting_164 : decode cX3_resting 164 = .ok (.aload_n 0, 1) := by decide +kernel
theorem dX3_resting_165 : decode cX3_resting 165 = .ok (.getfield 49, 3) := by decide +kernel
theorem dX3_resting_168 : decode cX3_resting 168 = .ok (.iload 8, 2) := by decide +kernel
theorem dX3_resting_170 : decode cX3_resting 170 = .ok (.iaload, 1) := by decide +kernel
theorem dX3_resting_171 : decode cX3_resting 171 = .ok (.aload_n 0, 1) := by decide +kernel
theorem dX3_resting_172 : decode cX3_resting 172 = .ok (.getfield 49, 3) := by decide +kernel
theorem dX3_resting_175 : decode cX3_resting 175 = .ok (.iload 8, 2) := by decide +kernel
theorem dX3_resting_177 : decode cX3_resting 177 = .ok (.iconst 1, 1) := by decide +kernel
theorem dX3_resting_178 : decode cX3_resting 178 = .ok (.ixor, 1) := by decide +kernel
theorem dX3_resting_179 : decode cX3_resting 179 = .ok (.iaload, 1) := by decide +kernel
theorem dX3_resting_180 : decode cX3_resting 180 = .ok (.if_icmp .lt 31, 3) := by decide +kernel
theorem dX3_resting_183 : decode cX3_resting 183 = .ok (.aload_n 0, 1) := by decide +kernel
theorem dX3_resting_184 : decode cX3_resting 184 = .ok (.getfield 52, 3) := by decide +kernel
theorem dX3_resting_187 : decode cX3_resting 187 = .ok (.iload 8, 2) := by decide +kernel
theorem dX3_resting_189 : decode cX3_resting 189 = .ok (.iaload, 1) := by decide +kernel
theorem dX3_resting_190 : decode cX3_resting 190 = .ok (.aload_n 0, 1) := by decide +kernel
theorem dX3_resting_191 : decode cX3_resting 191 = .ok (.getfield 52, 3) := by decide +kernel
theorem dX3_resting_194 : decode cX3_resting 194 = .ok (.iload 8, 2) := by decide +kernel
theorem dX3_resting_196 : decode cX3_resting 196 = .ok (.iconst 2, 1) := by decide +kernel
theorem dX3_resting_197 : decode cX3_resting 197 = .ok (.ixor, 1) := by decide +kernel
theorem dX3_resting_198 : decode cX3_resting 198 = .ok (.iaload, 1) := by decide +kernel
theorem dX3_resting_199 : decode cX3_resting 199 = .ok (.if_icmp .lt 12, 3) := by decide +kernel
theorem dX3_resting_202 : decode cX3_resting 202 = .ok (.iload 7, 2) := by decide +kernel
theorem dX3_resting_204 : decode cX3_resting 204 = .ok (.iconst 1, 1) := by decide +kernel
theorem dX3_resting_205 : decode cX3_resting 205 = .ok (.iload 8, 2) := by decide +kernel
theorem dX3_resting_207 : decode cX3_resting 207 = .ok (.ishl, 1) := by decide +kernel
theorem dX3_resting_208 : decode cX3_resting 208 = .ok (.ior, 1) := by decide +kernel
theorem dX3_resting_209 : decode cX3_resting 209 = .ok (.istore 7, 2) := by decide +kernel
theorem dX3_resting_211 : decode cX3_resting 211 = .ok (.iinc 8 1, 3) := by decide +kernel
theorem dX3_resting_214 : decode cX3_resting 214 = .ok (.goto (-56), 3) := by decide +kernel
theorem dX3_resting_217 : decode cX3_resting 217 = .ok (.iload 7, 2) := by decide +kernel
theorem dX3_resting_219 : decode cX3_resting 219 = .ok (.ireturn, 1) := by decide +kernel
theorem dX3_acresOfNights_0 : decode cX3_acresOfNights 0 = .ok (.iload_n 2, 1) := by decide +kernel
theorem dX3_acresOfNights_1 : decode cX3_acresOfNights 1 = .ok (.i2l, 1) := by decide +kernel
theorem dX3_acresOfNights_2 : decode cX3_acresOfNights 2 = .ok (.lstore 5, 2) := by decide +kernel
theorem dX3_acresOfNights_4 : decode cX3_acresOfNights 4 = .ok (.iconst 0, 1) := by decide +kernel
theorem dX3_acresOfNights_5 : decode cX3_acresOfNights 5 = .ok (.istore 7, 2) := by decide +kernel
theorem dX3_acresOfNights_7 : decode cX3_acresOfNights 7 = .ok (.iconst 0, 1) := by decide +kernel
theorem dX3_acresOfNights_8 : decode cX3_acresOfNights 8 = .ok (.istore 8, 2) := by decide +kernel
theorem dX3_acresOfNights_10 : decode cX3_acresOfNights 10 = .ok (.iload 8, 2) := by decide +kernel
theorem dX3_acresOfNights_12 : decode cX3_acresOfNights 12 = .ok (.iload_n 3, 1) := by decide +kernel
theorem dX3_acresOfNights_13 : decode cX3_acresOfNights 13 = .ok (.if_icmp .ge 94, 3) := by decide +kernel
theorem dX3_acresOfNights_16 : decode cX3_acresOfNights 16 = .ok (.iconst 0, 1) := by decide +kernel
theorem dX3_acresOfNights_17 : decode cX3_acresOfNights 17 = .ok (.istore 9, 2) := by decide +kernel
theorem dX3_acresOfNights_19 : decode cX3_acresOfNights 19 = .ok (.iconst 0, 1) := by decide +kernel
theorem dX3_acresOfNights_20 : decode cX3_acresOfNights 20 = .ok (.istore 10, 2) := by decide +kernel
theorem dX3_acresOfNights_22 : decode cX3_acresOfNights 22 = .ok (.iload 10, 2) := by decide +kernel
theorem dX3_acresOfNights_24 : decode cX3_acresOfNights 24 = .ok (.aload_n 0, 1) := by decide +kernel
theorem dX3_acresOfNights_25 : decode cX3_acresOfNights 25 = .ok (.getfield 55, 3) := by decide +kernel
theorem dX3_acresOfNights_28 : decode cX3_acresOfNights 28 = .ok (.getfield 87, 3) := by decide +kernel
theorem dX3_acresOfNights_31 : decode cX3_acresOfNights 31 = .ok (.if_icmp .ge 51, 3) := by decide +kernel
theorem dX3_acresOfNights_34 : decode cX3_acresOfNights 34 = .ok (.lload 5, 2) := by decide +kernel
theorem dX3_acresOfNights_36 : decode cX3_acresOfNights 36 = .ok (.ldc2_w 122, 3) := by decide +kernel
theorem dX3_acresOfNights_39 : decode cX3_acresOfNights 39 = .ok (.lmul, 1) := by decide +kernel
theorem dX3_acresOfNights_40 : decode cX3_acresOfNights 40 = .ok (.ldc2_w 124, 3) := by decide +kernel
theorem dX3_acresOfNights_43 : decode cX3_acresOfNights 43 = .ok (.ladd, 1) := by decide +kernel
theorem dX3_acresOfNights_44 : decode cX3_acresOfNights 44 = .ok (.ldc2_w 126, 3) := by decide +kernel
theorem dX3_acresOfNights_47 : decode cX3_acresOfNights 47 = .ok (.lrem, 1) := by decide +kernel
theorem dX3_acresOfNights_48 : decode cX3_acresOfNights 48 = .ok (.lstore 5, 2) := by decide +kernel
theorem dX3_acresOfNights_50 : decode cX3_acresOfNights 50 = .ok (.lload 5, 2) := by decide +kernel
theorem dX3_acresOfNights_52 : decode cX3_acresOfNights 52 = .ok (.ldc2_w 128, 3) := by decide +kernel
theorem dX3_acresOfNights_55 : decode cX3_acresOfNights 55 = .ok (.ldiv, 1) := by decide +kernel
theorem dX3_acresOfNights_56 : decode cX3_acresOfNights 56 = .ok (.ldc2_w 130, 3) := by decide +kernel
theorem dX3_acresOfNights_59 : decode cX3_acresOfNights 59 = .ok (.lrem, 1) := by decide +kernel
theorem dX3_acresOfNights_60 : decode cX3_acresOfNights 60 = .ok (.iload 4, 2) := by decide +kernel
theorem dX3_acresOfNights_62 : decode cX3_acresOfNights 62 = .ok (.i2l, 1) := by decide +kernel
theorem dX3_acresOfNights_63 : decode cX3_acresOfNights 63 = .ok (.lcmp, 1) := by decide +kernel
theorem dX3_acresOfNights_64 : decode cX3_acresOfNights 64 = .ok (.ifCond .ge 12, 3) := by decide +kernel
theorem dX3_acresOfNights_67 : decode cX3_acresOfNights 67 = .ok (.iload 9, 2) := by decide +kernel
theorem dX3_acresOfNights_69 : decode cX3_acresOfNights 69 = .ok (.iconst 1, 1) := by decide +kernel
theorem dX3_acresOfNights_70 : decode cX3_acresOfNights 70 = .ok (.iload 10, 2) := by decide +kernel
theorem dX3_acresOfNights_72 : decode cX3_acresOfNights 72 = .ok (.ishl, 1) := by decide +kernel
theorem dX3_acresOfNights_73 : decode cX3_acresOfNights 73 = .ok (.ior, 1) := by decide +kernel
theorem dX3_acresOfNights_74 : decode cX3_acresOfNights 74 = .ok (.istore 9, 2) := by decide +kernel
theorem dX3_acresOfNights_76 : decode cX3_acresOfNights 76 = .ok (.iinc 10 1, 3) := by decide +kernel
theorem dX3_acresOfNights_79 : decode cX3_acresOfNights 79 = .ok (.goto (-57), 3) := by decide +kernel
theorem dX3_acresOfNights_82 : decode cX3_acresOfNights 82 = .ok (.iload 7, 2) := by decide +kernel
theorem dX3_acresOfNights_84 : decode cX3_acresOfNights 84 = .ok (.aload_n 0, 1) := by decide +kernel
theorem dX3_acresOfNights_85 : decode cX3_acresOfNights 85 = .ok (.iload_n 1, 1) := by decide +kernel
theorem dX3_acresOfNights_86 : decode cX3_acresOfNights 86 = .ok (.iload 9, 2) := by decide +kernel
theorem dX3_acresOfNights_88 : decode cX3_acresOfNights 88 = .ok (.aload_n 0, 1) := by decide +kernel
theorem dX3_acresOfNights_89 : decode cX3_acresOfNights 89 = .ok (.getfield 55, 3) := by decide +kernel
theorem dX3_acresOfNights_92 : decode cX3_acresOfNights 92 = .ok (.getfield 104, 3) := by decide +kernel
theorem dX3_acresOfNights_95 : decode cX3_acresOfNights 95 = .ok (.invokevirtual 111, 3) := by decide +kernel
theorem dX3_acresOfNights_98 : decode cX3_acresOfNights 98 = .ok (.iadd, 1) := by decide +kernel
theorem dX3_acresOfNights_99 : decode cX3_acresOfNights 99 = .ok (.istore 7, 2) := by decide +kernel
theorem dX3_acresOfNights_101 : decode cX3_acresOfNights 101 = .ok (.iinc 8 1, 3) := by decide +kernel
theorem dX3_acresOfNights_104 : decode cX3_acresOfNights 104 = .ok (.goto (-94), 3) := by decide +kernel
theorem dX3_acresOfNights_107 : decode cX3_acresOfNights 107 = .ok (.iload 7, 2) := by decide +kernel
theorem dX3_acresOfNights_109 : decode cX3_acresOfNights 109 = .ok (.ireturn, 1) := by decide +kernel
theorem dX3_bestPlace_0 : decode cX3_bestPlace 0 = .ok (.aload_n 0, 1) := by decide +kernel
theorem dX3_bestPlace_1 : decode cX3_bestPlace 1 = .ok (.getfield 55, 3) := by decide +kernel
theorem dX3_bestPlace_4 : decode cX3_bestPlace 4 = .ok (.iload_n 1, 1) := by decide +kernel
theorem dX3_bestPlace_5 : decode cX3_bestPlace 5 = .ok (.invokevirtual 132, 3) := by decide +kernel
theorem dX3_bestPlace_8 : decode cX3_bestPlace 8 = .ok (.ifCond .ne 5, 3) := by decide +kernel
theorem dX3_bestPlace_11 : decode cX3_bestPlace 11 = .ok (.iconst 0, 1) := by decide +kernel
theorem dX3_bestPlace_12 : decode cX3_bestPlace 12 = .ok (.ireturn, 1) := by decide +kernel
theorem dX3_bestPlace_13 : decode cX3_bestPlace 13 = .ok (.aload_n 0, 1) := by decide +kernel
theorem dX3_bestPlace_14 : decode cX3_bestPlace 14 = .ok (.aload_n 0, 1) := by decide +kernel
theorem dX3_bestPlace_15 : decode cX3_bestPlace 15 = .ok (.getfield 55, 3) := by decide +kernel
theorem dX3_bestPlace_18 : decode cX3_bestPlace 18 = .ok (.getfield 104, 3) := by decide +kernel
theorem dX3_bestPlace_21 : decode cX3_bestPlace 21 = .ok (.iload_n 1, 1) := by decide +kernel
theorem dX3_bestPlace_22 : decode cX3_bestPlace 22 = .ok (.iaload, 1) := by decide +kernel
theorem dX3_bestPlace_23 : decode cX3_bestPlace 23 = .ok (.invokevirtual 114, 3) := by decide +kernel
theorem dX3_bestPlace_26 : decode cX3_bestPlace 26 = .ok (.istore_n 3, 1) := by decide +kernel
theorem dX3_bestPlace_27 : decode cX3_bestPlace 27 = .ok (.aload_n 0, 1) := by decide +kernel
theorem dX3_bestPlace_28 : decode cX3_bestPlace 28 = .ok (.getfield 55, 3) := by decide +kernel
theorem dX3_bestPlace_31 : decode cX3_bestPlace 31 = .ok (.getfield 101, 3) := by decide +kernel
theorem dX3_bestPlace_34 : decode cX3_bestPlace 34 = .ok (.iconst 1, 1) := by decide +kernel
theorem dX3_bestPlace_35 : decode cX3_bestPlace 35 = .ok (.iload_n 1, 1) := by decide +kernel
theorem dX3_bestPlace_36 : decode cX3_bestPlace 36 = .ok (.ishl, 1) := by decide +kernel
theorem dX3_bestPlace_37 : decode cX3_bestPlace 37 = .ok (.iconst (-1), 1) := by decide +kernel
theorem dX3_bestPlace_38 : decode cX3_bestPlace 38 = .ok (.ixor, 1) := by decide +kernel
theorem dX3_bestPlace_39 : decode cX3_bestPlace 39 = .ok (.iand, 1) := by decide +kernel
theorem dX3_bestPlace_40 : decode cX3_bestPlace 40 = .ok (.istore 4, 2) := by decide +kernel
theorem dX3_bestPlace_42 : decode cX3_bestPlace 42 = .ok (.iconst 0, 1) := by decide +kernel
theorem dX3_bestPlace_43 : decode cX3_bestPlace 43 = .ok (.istore 5, 2) := by decide +kernel
theorem dX3_bestPlace_45 : decode cX3_bestPlace 45 = .ok (.iload 5, 2) := by decide +kernel
theorem dX3_bestPlace_47 : decode cX3_bestPlace 47 = .ok (.bipush 64, 2) := by decide +kernel
theorem dX3_bestPlace_49 : decode cX3_bestPlace 49 = .ok (.if_icmp .ge 45, 3) := by decide +kernel
theorem dX3_bestPlace_52 : decode cX3_bestPlace 52 = .ok (.aload_n 0, 1) := by decide +kernel
theorem dX3_bestPlace_53 : decode cX3_bestPlace 53 = .ok (.getfield 40, 3) := by decide +kernel
theorem dX3_bestPlace_56 : decode cX3_bestPlace 56 = .ok (.iload 5, 2) := by decide +kernel
theorem dX3_bestPlace_58 : decode cX3_bestPlace 58 = .ok (.aload_n 0, 1) := by decide +kernel
theorem dX3_bestPlace_59 : decode cX3_bestPlace 59 = .ok (.iload 5, 2) := by decide +kernel
theorem dX3_bestPlace_61 : decode cX3_bestPlace 61 = .ok (.iload 4, 2) := by decide +kernel
theorem dX3_bestPlace_63 : decode cX3_bestPlace 63 = .ok (.iload_n 3, 1) := by decide +kernel
theorem dX3_bestPlace_64 : decode cX3_bestPlace 64 = .ok (.iand, 1) := by decide +kernel
theorem dX3_bestPlace_65 : decode cX3_bestPlace 65 = .ok (.invokevirtual 135, 3) := by decide +kernel
theorem dX3_bestPlace_68 : decode cX3_bestPlace 68 = .ok (.iastore, 1) := by decide +kernel
theorem dX3_bestPlace_69 : decode cX3_bestPlace 69 = .ok (.aload_n 0, 1) := by decide +kernel
theorem dX3_bestPlace_70 : decode cX3_bestPlace 70 = .ok (.getfield 43, 3) := by decide +kernel
theorem dX3_bestPlace_73 : decode cX3_bestPlace 73 = .ok (.iload 5, 2) := by decide +kernel
theorem dX3_bestPlace_75 : decode cX3_bestPlace 75 = .ok (.aload_n 0, 1) := by decide +kernel
theorem dX3_bestPlace_76 : decode cX3_bestPlace 76 = .ok (.iload 5, 2) := by decide +kernel
theorem dX3_bestPlace_78 : decode cX3_bestPlace 78 = .ok (.iload 4, 2) := by decide +kernel
theorem dX3_bestPlace_80 : decode cX3_bestPlace 80 = .ok (.iload_n 3, 1) := by decide +kernel
theorem dX3_bestPlace_81 : decode cX3_bestPlace 81 = .ok (.iconst (-1), 1) := by decide +kernel
theorem dX3_bestPlace_82 : decode cX3_bestPlace 82 = .ok (.ixor, 1) := by decide +kernel
theorem dX3_bestPlace_83 : decode cX3_bestPlace 83 = .ok (.iand, 1) := by decide +kernel
theorem dX3_bestPlace_84 : decode cX3_bestPlace 84 = .ok (.invokevirtual 135, 3) := by decide +kernel
theorem dX3_bestPlace_87 : decode cX3_bestPlace 87 = .ok (.iastore, 1) := by decide +kernel
theorem dX3_bestPlace_88 : decode cX3_bestPlace 88 = .ok (.iinc 5 1, 3) := by decide +kernel
theorem dX3_bestPlace_91 : decode cX3_bestPlace 91 = .ok (.goto (-46), 3) := by decide +kernel
theorem dX3_bestPlace_94 : decode cX3_bestPlace 94 = .ok (.aload_n 0, 1) := by decide +kernel
theorem dX3_bestPlace_95 : decode cX3_bestPlace 95 = .ok (.iload_n 1, 1) := by decide +kernel
theorem dX3_bestPlace_96 : decode cX3_bestPlace 96 = .ok (.iload_n 2, 1) := by decide +kernel
theorem dX3_bestPlace_97 : decode cX3_bestPlace 97 = .ok (.invokevirtual 97, 3) := by decide +kernel
theorem dX3_bestPlace_100 : decode cX3_bestPlace 100 = .ok (.iconst 0, 1) := by decide +kernel
theorem dX3_bestPlace_101 : decode cX3_bestPlace 101 = .ok (.istore 5, 2) := by decide +kernel
theorem dX3_bestPlace_103 : decode cX3_bestPlace 103 = .ok (.iconst (-1), 1) := by decide +kernel
theorem dX3_bestPlace_104 : decode cX3_bestPlace 104 = .ok (.istore 6, 2) := by decide +kernel
theorem dX3_bestPlace_106 : decode cX3_bestPlace 106 = .ok (.iconst 0, 1) := by decide +kernel
theorem dX3_bestPlace_107 : decode cX3_bestPlace 107 = .ok (.istore 7, 2) := by decide +kernel
theorem dX3_bestPlace_109 : decode cX3_bestPlace 109 = .ok (.iload 7, 2) := by decide +kernel
theorem dX3_bestPlace_111 : decode cX3_bestPlace 111 = .ok (.bipush 64, 2) := by decide +kernel
theorem dX3_bestPlace_113 : decode cX3_bestPlace 113 = .ok (.if_icmp .ge 32, 3) := by decide +kernel
theorem dX3_bestPlace_116 : decode cX3_bestPlace 116 = .ok (.aload_n 0, 1) := by decide +kernel
theorem dX3_bestPlace_117 : decode cX3_bestPlace 117 = .ok (.iload 7, 2) := by decide +kernel
theorem dX3_bestPlace_119 : decode cX3_bestPlace 119 = .ok (.invokevirtual 138, 3) := by decide +kernel
theorem dX3_bestPlace_122 : decode cX3_bestPlace 122 = .ok (.istore 8, 2) := by decide +kernel
theorem dX3_bestPlace_124 : decode cX3_bestPlace 124 = .ok (.iload 8, 2) := by decide +kernel
theorem dX3_bestPlace_126 : decode cX3_bestPlace 126 = .ok (.iload 6, 2) := by decide +kernel
theorem dX3_bestPlace_128 : decode cX3_bestPlace 128 = .ok (.if_icmp .le 11, 3) := by decide +kernel
theorem dX3_bestPlace_131 : decode cX3_bestPlace 131 = .ok (.iload 8, 2) := by decide +kernel
theorem dX3_bestPlace_133 : decode cX3_bestPlace 133 = .ok (.istore 6, 2) := by decide +kernel
theorem dX3_bestPlace_135 : decode cX3_bestPlace 135 = .ok (.iload 7, 2) := by decide +kernel
theorem dX3_bestPlace_137 : decode cX3_bestPlace 137 = .ok (.istore 5, 2) := by decide +kernel
theorem dX3_bestPlace_139 : decode cX3_bestPlace 139 = .ok (.iinc 7 1, 3) := by decide +kernel
theorem dX3_bestPlace_142 : decode cX3_bestPlace 142 = .ok (.goto (-33), 3) := by decide +kernel
theorem dX3_bestPlace_145 : decode cX3_bestPlace 145 = .ok (.iload 5, 2) := by decide +kernel
theorem dX3_bestPlace_147 : decode cX3_bestPlace 147 = .ok (.ireturn, 1) := by decide +kernel
theorem dX3_acresFrom_0 : decode cX3_acresFrom 0 = .ok (.iconst 0, 1) := by decide +kernel
theorem dX3_acresFrom_1 : decode cX3_acresFrom 1 = .ok (.istore_n 2, 1) := by decide +kernel
theorem dX3_acresFrom_2 : decode cX3_acresFrom 2 = .ok (.iconst 0, 1) := by decide +kernel
theorem dX3_acresFrom_3 : decode cX3_acresFrom 3 = .ok (.istore_n 3, 1) := by decide +kernel
theorem dX3_acresFrom_4 : decode cX3_acresFrom 4 = .ok (.iload_n 3, 1) := by decide +kernel
theorem dX3_acresFrom_5 : decode cX3_acresFrom 5 = .ok (.bipush 64, 2) := by decide +kernel
theorem dX3_acresFrom_7 : decode cX3_acresFrom 7 = .ok (.if_icmp .ge 40, 3) := by decide +kernel
theorem dX3_acresFrom_10 : decode cX3_acresFrom 10 = .ok (.aload_n 0, 1) := by decide +kernel
theorem dX3_acresFrom_11 : decode cX3_acresFrom 11 = .ok (.getfield 40, 3) := by decide +kernel
theorem dX3_acresFrom_14 : decode cX3_acresFrom 14 = .ok (.iload_n 3, 1) := by decide +kernel
theorem dX3_acresFrom_15 : decode cX3_acresFrom 15 = .ok (.iaload, 1) := by decide +kernel
theorem dX3_acresFrom_16 : decode cX3_acresFrom 16 = .ok (.aload_n 0, 1) := by decide +kernel
theorem dX3_acresFrom_17 : decode cX3_acresFrom 17 = .ok (.getfield 46, 3) := by decide +kernel
theorem dX3_acresFrom_20 : decode cX3_acresFrom 20 = .ok (.iload_n 1, 1) := by decide +kernel
theorem dX3_acresFrom_21 : decode cX3_acresFrom 21 = .ok (.iload_n 3, 1) := by decide +kernel
theorem dX3_acresFrom_22 : decode cX3_acresFrom 22 = .ok (.invokestatic 141, 3) := by decide +kernel
theorem dX3_acresFrom_25 : decode cX3_acresFrom 25 = .ok (.iaload, 1) := by decide +kernel
theorem dX3_acresFrom_26 : decode cX3_acresFrom 26 = .ok (.invokestatic 82, 3) := by decide +kernel
theorem dX3_acresFrom_29 : decode cX3_acresFrom 29 = .ok (.aload_n 0, 1) := by decide +kernel
theorem dX3_acresFrom_30 : decode cX3_acresFrom 30 = .ok (.getfield 43, 3) := by decide +kernel
theorem dX3_acresFrom_33 : decode cX3_acresFrom 33 = .ok (.iload_n 3, 1) := by decide +kernel
theorem dX3_acresFrom_34 : decode cX3_acresFrom 34 = .ok (.iaload, 1) := by decide +kernel
theorem dX3_acresFrom_35 : decode cX3_acresFrom 35 = .ok (.if_icmp .le 6, 3) := by decide +kernel
theorem dX3_acresFrom_38 : decode cX3_acresFrom 38 = .ok (.iinc 2 1, 3) := by decide +kernel
theorem dX3_acresFrom_41 : decode cX3_acresFrom 41 = .ok (.iinc 3 1, 3) := by decide +kernel
theorem dX3_acresFrom_44 : decode cX3_acresFrom 44 = .ok (.goto (-40), 3) := by decide +kernel
theorem dX3_acresFrom_47 : decode cX3_acresFrom 47 = .ok (.iload_n 2, 1) := by decide +kernel
theorem dX3_acresFrom_48 : decode cX3_acresFrom 48 = .ok (.ireturn, 1) := by decide +kernel
theorem dX4_init_0 : decode cX4_init 0 = .ok (.aload_n 0, 1) := by decide +kernel
theorem dX4_init_1 : decode cX4_init 1 = .ok (.invokespecial 1, 3) := by decide +kernel
theorem dX4_init_4 : decode cX4_init 4 = .ok (.return_, 1) := by decide +kernel
theorem dX4_strength_0 : decode cX4_strength 0 = .ok (.iload_n 1, 1) := by decide +kernel
theorem dX4_strength_1 : decode cX4_strength 1 = .ok (.iload_n 2, 1) := by decide +kernel
theorem dX4_strength_2 : decode cX4_strength 2 = .ok (.if_icmp .le 9, 3) := by decide +kernel
theorem dX4_strength_5 : decode cX4_strength 5 = .ok (.iload_n 1, 1) := by decide +kernel
theorem dX4_strength_6 : decode cX4_strength 6 = .ok (.iload_n 2, 1) := by decide +kernel
theorem dX4_strength_7 : decode cX4_strength 7 = .ok (.isub, 1) := by decide +kernel
theorem dX4_strength_8 : decode cX4_strength 8 = .ok (.goto 4, 3) := by decide +kernel
theorem dX4_strength_11 : decode cX4_strength 11 = .ok (.iconst 0, 1) := by decide +kernel
theorem dX4_strength_12 : decode cX4_strength 12 = .ok (.ireturn, 1) := by decide +kernel
theorem dX4_hours_0 : decode cX4_hours 0 = .ok (.iload_n 1, 1) := by decide +kernel
theorem dX4_hours_1 : decode cX4_hours 1 = .ok (.ireturn, 1) := by decide +kernel
theorem dX5_init_0 : decode cX5_init 0 = .ok (.aload_n 0, 1) := by decide +kernel
theorem dX5_init_1 : decode cX5_init 1 = .ok (.invokespecial 3, 3) := by decide +kernel
theorem dX5_init_4 : decode cX5_init 4 = .ok (.aload_n 0, 1) := by decide +kernel
theorem dX5_init_5 : decode cX5_init 5 = .ok (.new 9, 3) := by decide +kernel
theorem dX5_init_8 : decode cX5_init 8 = .ok (.dup, 1) := by decide +kernel
theorem dX5_init_9 : decode cX5_init 9 = .ok (.invokespecial 11, 3) := by decide +kernel
theorem dX5_init_12 : decode cX5_init 12 = .ok (.putfield 12, 3) := by decide +kernel
theorem dX5_init_15 : decode cX5_init 15 = .ok (.aload_n 0, 1) := by decide +kernel
theorem dX5_init_16 : decode cX5_init 16 = .ok (.iconst 0, 1) := by decide +kernel
theorem dX5_init_17 : decode cX5_init 17 = .ok (.putfield 18, 3) := by decide +kernel
theorem dX5_init_20 : decode cX5_init 20 = .ok (.aload_n 0, 1) := by decide +kernel
theorem dX5_init_21 : decode cX5_init 21 = .ok (.sipush 150, 3) := by decide +kernel
theorem dX5_init_24 : decode cX5_init 24 = .ok (.newarray .byte, 2) := by decide +kernel
theorem dX5_init_26 : decode cX5_init 26 = .ok (.putfield 22, 3) := by decide +kernel
theorem dX5_init_29 : decode cX5_init 29 = .ok (.aload_n 0, 1) := by decide +kernel
theorem dX5_init_30 : decode cX5_init 30 = .ok (.iconst 0, 1) := by decide +kernel
theorem dX5_init_31 : decode cX5_init 31 = .ok (.putfield 26, 3) := by decide +kernel
theorem dX5_init_34 : decode cX5_init 34 = .ok (.aload_n 0, 1) := by decide +kernel
theorem dX5_init_35 : decode cX5_init 35 = .ok (.iconst 0, 1) := by decide +kernel
theorem dX5_init_36 : decode cX5_init 36 = .ok (.putfield 29, 3) := by decide +kernel
theorem dX5_init_39 : decode cX5_init 39 = .ok (.aload_n 0, 1) := by decide +kernel
theorem dX5_init_40 : decode cX5_init 40 = .ok (.iconst 0, 1) := by decide +kernel
theorem dX5_init_41 : decode cX5_init 41 = .ok (.putfield 32, 3) := by decide +kernel
theorem dX5_init_44 : decode cX5_init 44 = .ok (.aload_n 0, 1) := by decide +kernel
theorem dX5_init_45 : decode cX5_init 45 = .ok (.iconst 0, 1) := by decide +kernel
theorem dX5_init_46 : decode cX5_init 46 = .ok (.putfield 35, 3) := by decide +kernel
theorem dX5_init_49 : decode cX5_init 49 = .ok (.return_, 1) := by decide +kernel
theorem dX5_append_0 : decode cX5_append 0 = .ok (.aload_n 0, 1) := by decide +kernel
theorem dX5_append_1 : decode cX5_append 1 = .ok (.getfield 18, 3) := by decide +kernel
theorem dX5_append_4 : decode cX5_append 4 = .ok (.sipush 150, 3) := by decide +kernel
theorem dX5_append_7 : decode cX5_append 7 = .ok (.if_icmp .ge 24, 3) := by decide +kernel
theorem dX5_append_10 : decode cX5_append 10 = .ok (.aload_n 0, 1) := by decide +kernel
theorem dX5_append_11 : decode cX5_append 11 = .ok (.getfield 22, 3) := by decide +kernel
theorem dX5_append_14 : decode cX5_append 14 = .ok (.aload_n 0, 1) := by decide +kernel
theorem dX5_append_15 : decode cX5_append 15 = .ok (.getfield 18, 3) := by decide +kernel
theorem dX5_append_18 : decode cX5_append 18 = .ok (.iload_n 1, 1) := by decide +kernel
theorem dX5_append_19 : decode cX5_append 19 = .ok (.i2b, 1) := by decide +kernel
theorem dX5_append_20 : decode cX5_append 20 = .ok (.bastore, 1) := by decide +kernel
theorem dX5_append_21 : decode cX5_append 21 = .ok (.aload_n 0, 1) := by decide +kernel
theorem dX5_append_22 : decode cX5_append 22 = .ok (.dup, 1) := by decide +kernel
theorem dX5_append_23 : decode cX5_append 23 = .ok (.getfield 18, 3) := by decide +kernel
theorem dX5_append_26 : decode cX5_append 26 = .ok (.iconst 1, 1) := by decide +kernel
theorem dX5_append_27 : decode cX5_append 27 = .ok (.iadd, 1) := by decide +kernel
theorem dX5_append_28 : decode cX5_append 28 = .ok (.putfield 18, 3) := by decide +kernel
theorem dX5_append_31 : decode cX5_append 31 = .ok (.aload_n 0, 1) := by decide +kernel
theorem dX5_append_32 : decode cX5_append 32 = .ok (.getfield 18, 3) := by decide +kernel
theorem dX5_append_35 : decode cX5_append 35 = .ok (.ireturn, 1) := by decide +kernel
theorem dX5_parse_0 : decode cX5_parse 0 = .ok (.aload_n 0, 1) := by decide +kernel
theorem dX5_parse_1 : decode cX5_parse 1 = .ok (.iconst 0, 1) := by decide +kernel
theorem dX5_parse_2 : decode cX5_parse 2 = .ok (.putfield 26, 3) := by decide +kernel
theorem dX5_parse_5 : decode cX5_parse 5 = .ok (.aload_n 0, 1) := by decide +kernel
theorem dX5_parse_6 : decode cX5_parse 6 = .ok (.getfield 12, 3) := by decide +kernel
theorem dX5_parse_9 : decode cX5_parse 9 = .ok (.iconst 0, 1) := by decide +kernel
theorem dX5_parse_10 : decode cX5_parse 10 = .ok (.invokevirtual 38, 3) := by decide +kernel
theorem dX5_parse_13 : decode cX5_parse 13 = .ok (.iconst 0, 1) := by decide +kernel
theorem dX5_parse_14 : decode cX5_parse 14 = .ok (.istore_n 1, 1) := by decide +kernel
theorem dX5_parse_15 : decode cX5_parse 15 = .ok (.iload_n 1, 1) := by decide +kernel
theorem dX5_parse_16 : decode cX5_parse 16 = .ok (.sipush 150, 3) := by decide +kernel
theorem dX5_parse_19 : decode cX5_parse 19 = .ok (.if_icmp .gt 45, 3) := by decide +kernel
theorem dX5_parse_22 : decode cX5_parse 22 = .ok (.aload_n 0, 1) := by decide +kernel
theorem dX5_parse_23 : decode cX5_parse 23 = .ok (.invokevirtual 42, 3) := by decide +kernel
theorem dX5_parse_26 : decode cX5_parse 26 = .ok (.aload_n 0, 1) := by decide +kernel
theorem dX5_parse_27 : decode cX5_parse 27 = .ok (.getfield 29, 3) := by decide +kernel
theorem dX5_parse_30 : decode cX5_parse 30 = .ok (.ifCond .ne 9, 3) := by decide +kernel
theorem dX5_parse_33 : decode cX5_parse 33 = .ok (.iload_n 1, 1) := by decide +kernel
theorem dX5_parse_34 : decode cX5_parse 34 = .ok (.ifCond .le 5, 3) := by decide +kernel
theorem dX5_parse_37 : decode cX5_parse 37 = .ok (.iload_n 1, 1) := by decide +kernel
theorem dX5_parse_38 : decode cX5_parse 38 = .ok (.ireturn, 1) := by decide +kernel
theorem dX5_parse_39 : decode cX5_parse 39 = .ok (.aload_n 0, 1) := by decide +kernel
theorem dX5_parse_40 : decode cX5_parse 40 = .ok (.iload_n 1, 1) := by decide +kernel
theorem dX5_parse_41 : decode cX5_parse 41 = .ok (.ifCond .ne 7, 3) := by decide +kernel
theorem dX5_parse_44 : decode cX5_parse 44 = .ok (.iconst 1, 1) := by decide +kernel
theorem dX5_parse_45 : decode cX5_parse 45 = .ok (.goto 4, 3) := by decide +kernel
theorem dX5_parse_48 : decode cX5_parse 48 = .ok (.iconst 0, 1) := by decide +kernel
theorem dX5_parse_49 : decode cX5_parse 49 = .ok (.invokevirtual 45, 3) := by decide +kernel
theorem dX5_parse_52 : decode cX5_parse 52 = .ok (.ifCond .ne 6, 3) := by decide +kernel
theorem dX5_parse_55 : decode cX5_parse 55 = .ok (.goto 9, 3) := by decide +kernel
theorem dX5_parse_58 : decode cX5_parse 58 = .ok (.iinc 1 1, 3) := by decide +kernel
theorem dX5_parse_61 : decode cX5_parse 61 = .ok (.goto (-46), 3) := by decide +kernel
theorem dX5_parse_64 : decode cX5_parse 64 = .ok (.bipush (-10), 2) := by decide +kernel
theorem dX5_parse_66 : decode cX5_parse 66 = .ok (.aload_n 0, 1) := by decide +kernel
theorem dX5_parse_67 : decode cX5_parse 67 = .ok (.getfield 32, 3) := by decide +kernel
theorem dX5_parse_70 : decode cX5_parse 70 = .ok (.isub, 1) := by decide +kernel
theorem dX5_parse_71 : decode cX5_parse 71 = .ok (.ireturn, 1) := by decide +kernel
