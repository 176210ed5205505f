theorem dX12_spite_0 : decode cX12_spite 0 = .ok (.iload_n 1, 1) := by decide +kernel
theorem dX12_spite_1 : decode cX12_spite 1 = .ok (.invokestatic 92, 3) := by decide +kernel
theorem dX12_spite_4 : decode cX12_spite 4 = .ok (.ifCond .eq 35, 3) := by decide +kernel
theorem dX12_spite_7 : decode cX12_spite 7 = .ok (.iload_n 2, 1) := by decide +kernel
theorem dX12_spite_8 : decode cX12_spite 8 = .ok (.invokestatic 92, 3) := by decide +kernel
theorem dX12_spite_11 : decode cX12_spite 11 = .ok (.ifCond .eq 28, 3) := by decide +kernel
theorem dX12_spite_14 : decode cX12_spite 14 = .ok (.iload_n 1, 1) := by decide +kernel
theorem dX12_spite_15 : decode cX12_spite 15 = .ok (.iload_n 2, 1) := by decide +kernel
theorem dX12_spite_16 : decode cX12_spite 16 = .ok (.if_icmp .eq 23, 3) := by decide +kernel
theorem dX12_spite_19 : decode cX12_spite 19 = .ok (.iload_n 3, 1) := by decide +kernel
theorem dX12_spite_20 : decode cX12_spite 20 = .ok (.invokestatic 151, 3) := by decide +kernel
theorem dX12_spite_23 : decode cX12_spite 23 = .ok (.ifCond .eq 16, 3) := by decide +kernel
theorem dX12_spite_26 : decode cX12_spite 26 = .ok (.iload 4, 2) := by decide +kernel
theorem dX12_spite_28 : decode cX12_spite 28 = .ok (.i2l, 1) := by decide +kernel
theorem dX12_spite_29 : decode cX12_spite 29 = .ok (.lconst 0, 1) := by decide +kernel
theorem dX12_spite_30 : decode cX12_spite 30 = .ok (.ldc2_w 186, 3) := by decide +kernel
theorem dX12_spite_33 : decode cX12_spite 33 = .ok (.invokestatic 61, 3) := by decide +kernel
theorem dX12_spite_36 : decode cX12_spite 36 = .ok (.ifCond .ne 10, 3) := by decide +kernel
theorem dX12_spite_39 : decode cX12_spite 39 = .ok (.aload_n 0, 1) := by decide +kernel
theorem dX12_spite_40 : decode cX12_spite 40 = .ok (.bipush (-2), 2) := by decide +kernel
theorem dX12_spite_42 : decode cX12_spite 42 = .ok (.invokevirtual 75, 3) := by decide +kernel
theorem dX12_spite_45 : decode cX12_spite 45 = .ok (.ireturn, 1) := by decide +kernel
theorem dX12_spite_46 : decode cX12_spite 46 = .ok (.aload_n 0, 1) := by decide +kernel
theorem dX12_spite_47 : decode cX12_spite 47 = .ok (.iload_n 1, 1) := by decide +kernel
theorem dX12_spite_48 : decode cX12_spite 48 = .ok (.iload_n 2, 1) := by decide +kernel
theorem dX12_spite_49 : decode cX12_spite 49 = .ok (.iload_n 3, 1) := by decide +kernel
theorem dX12_spite_50 : decode cX12_spite 50 = .ok (.iload 4, 2) := by decide +kernel
theorem dX12_spite_52 : decode cX12_spite 52 = .ok (.invokevirtual 188, 3) := by decide +kernel
theorem dX12_spite_55 : decode cX12_spite 55 = .ok (.iconst 0, 1) := by decide +kernel
theorem dX12_spite_56 : decode cX12_spite 56 = .ok (.istore 5, 2) := by decide +kernel
theorem dX12_spite_58 : decode cX12_spite 58 = .ok (.iconst 0, 1) := by decide +kernel
theorem dX12_spite_59 : decode cX12_spite 59 = .ok (.istore 6, 2) := by decide +kernel
theorem dX12_spite_61 : decode cX12_spite 61 = .ok (.iload 6, 2) := by decide +kernel
theorem dX12_spite_63 : decode cX12_spite 63 = .ok (.iconst 4, 1) := by decide +kernel
theorem dX12_spite_64 : decode cX12_spite 64 = .ok (.if_icmp .ge 72, 3) := by decide +kernel
theorem dX12_spite_67 : decode cX12_spite 67 = .ok (.aload_n 0, 1) := by decide +kernel
theorem dX12_spite_68 : decode cX12_spite 68 = .ok (.getfield 36, 3) := by decide +kernel
theorem dX12_spite_71 : decode cX12_spite 71 = .ok (.iload 6, 2) := by decide +kernel
theorem dX12_spite_73 : decode cX12_spite 73 = .ok (.iaload, 1) := by decide +kernel
theorem dX12_spite_74 : decode cX12_spite 74 = .ok (.aload_n 0, 1) := by decide +kernel
theorem dX12_spite_75 : decode cX12_spite 75 = .ok (.getfield 36, 3) := by decide +kernel
theorem dX12_spite_78 : decode cX12_spite 78 = .ok (.iload 6, 2) := by decide +kernel
theorem dX12_spite_80 : decode cX12_spite 80 = .ok (.iconst 1, 1) := by decide +kernel
theorem dX12_spite_81 : decode cX12_spite 81 = .ok (.ixor, 1) := by decide +kernel
theorem dX12_spite_82 : decode cX12_spite 82 = .ok (.iaload, 1) := by decide +kernel
theorem dX12_spite_83 : decode cX12_spite 83 = .ok (.if_icmp .lt 26, 3) := by decide +kernel
theorem dX12_spite_86 : decode cX12_spite 86 = .ok (.aload_n 0, 1) := by decide +kernel
theorem dX12_spite_87 : decode cX12_spite 87 = .ok (.getfield 39, 3) := by decide +kernel
theorem dX12_spite_90 : decode cX12_spite 90 = .ok (.iload 6, 2) := by decide +kernel
theorem dX12_spite_92 : decode cX12_spite 92 = .ok (.iaload, 1) := by decide +kernel
theorem dX12_spite_93 : decode cX12_spite 93 = .ok (.aload_n 0, 1) := by decide +kernel
theorem dX12_spite_94 : decode cX12_spite 94 = .ok (.getfield 39, 3) := by decide +kernel
theorem dX12_spite_97 : decode cX12_spite 97 = .ok (.iload 6, 2) := by decide +kernel
theorem dX12_spite_99 : decode cX12_spite 99 = .ok (.iconst 2, 1) := by decide +kernel
theorem dX12_spite_100 : decode cX12_spite 100 = .ok (.ixor, 1) := by decide +kernel
theorem dX12_spite_101 : decode cX12_spite 101 = .ok (.iaload, 1) := by decide +kernel
theorem dX12_spite_102 : decode cX12_spite 102 = .ok (.if_icmp .lt 7, 3) := by decide +kernel
theorem dX12_spite_105 : decode cX12_spite 105 = .ok (.iconst 1, 1) := by decide +kernel
theorem dX12_spite_106 : decode cX12_spite 106 = .ok (.goto 4, 3) := by decide +kernel
theorem dX12_spite_109 : decode cX12_spite 109 = .ok (.iconst 0, 1) := by decide +kernel
theorem dX12_spite_110 : decode cX12_spite 110 = .ok (.istore 7, 2) := by decide +kernel
theorem dX12_spite_112 : decode cX12_spite 112 = .ok (.iload 5, 2) := by decide +kernel
theorem dX12_spite_114 : decode cX12_spite 114 = .ok (.iload 7, 2) := by decide +kernel
theorem dX12_spite_116 : decode cX12_spite 116 = .ok (.ifCond .eq 10, 3) := by decide +kernel
theorem dX12_spite_119 : decode cX12_spite 119 = .ok (.iconst 1, 1) := by decide +kernel
theorem dX12_spite_120 : decode cX12_spite 120 = .ok (.iload 6, 2) := by decide +kernel
theorem dX12_spite_122 : decode cX12_spite 122 = .ok (.ishl, 1) := by decide +kernel
theorem dX12_spite_123 : decode cX12_spite 123 = .ok (.goto 4, 3) := by decide +kernel
theorem dX12_spite_126 : decode cX12_spite 126 = .ok (.iconst 0, 1) := by decide +kernel
theorem dX12_spite_127 : decode cX12_spite 127 = .ok (.ior, 1) := by decide +kernel
theorem dX12_spite_128 : decode cX12_spite 128 = .ok (.istore 5, 2) := by decide +kernel
theorem dX12_spite_130 : decode cX12_spite 130 = .ok (.iinc 6 1, 3) := by decide +kernel
theorem dX12_spite_133 : decode cX12_spite 133 = .ok (.goto (-72), 3) := by decide +kernel
theorem dX12_spite_136 : decode cX12_spite 136 = .ok (.iload 5, 2) := by decide +kernel
theorem dX12_spite_138 : decode cX12_spite 138 = .ok (.ireturn, 1) := by decide +kernel
theorem dX12_reading_0 : decode cX12_reading 0 = .ok (.iload_n 1, 1) := by decide +kernel
theorem dX12_reading_1 : decode cX12_reading 1 = .ok (.invokestatic 85, 3) := by decide +kernel
theorem dX12_reading_4 : decode cX12_reading 4 = .ok (.ifCond .eq 22, 3) := by decide +kernel
theorem dX12_reading_7 : decode cX12_reading 7 = .ok (.iload_n 2, 1) := by decide +kernel
theorem dX12_reading_8 : decode cX12_reading 8 = .ok (.invokestatic 151, 3) := by decide +kernel
theorem dX12_reading_11 : decode cX12_reading 11 = .ok (.ifCond .eq 15, 3) := by decide +kernel
theorem dX12_reading_14 : decode cX12_reading 14 = .ok (.iload_n 3, 1) := by decide +kernel
theorem dX12_reading_15 : decode cX12_reading 15 = .ok (.i2l, 1) := by decide +kernel
theorem dX12_reading_16 : decode cX12_reading 16 = .ok (.lconst 0, 1) := by decide +kernel
theorem dX12_reading_17 : decode cX12_reading 17 = .ok (.ldc2_w 192, 3) := by decide +kernel
theorem dX12_reading_20 : decode cX12_reading 20 = .ok (.invokestatic 61, 3) := by decide +kernel
theorem dX12_reading_23 : decode cX12_reading 23 = .ok (.ifCond .ne 10, 3) := by decide +kernel
theorem dX12_reading_26 : decode cX12_reading 26 = .ok (.aload_n 0, 1) := by decide +kernel
theorem dX12_reading_27 : decode cX12_reading 27 = .ok (.bipush (-2), 2) := by decide +kernel
theorem dX12_reading_29 : decode cX12_reading 29 = .ok (.invokevirtual 75, 3) := by decide +kernel
theorem dX12_reading_32 : decode cX12_reading 32 = .ok (.ireturn, 1) := by decide +kernel
theorem dX12_reading_33 : decode cX12_reading 33 = .ok (.aload_n 0, 1) := by decide +kernel
theorem dX12_reading_34 : decode cX12_reading 34 = .ok (.getfield 7, 3) := by decide +kernel
theorem dX12_reading_37 : decode cX12_reading 37 = .ok (.iconst 4, 1) := by decide +kernel
theorem dX12_reading_38 : decode cX12_reading 38 = .ok (.iaload, 1) := by decide +kernel
theorem dX12_reading_39 : decode cX12_reading 39 = .ok (.bipush 6, 2) := by decide +kernel
theorem dX12_reading_41 : decode cX12_reading 41 = .ok (.if_icmp .ne 8, 3) := by decide +kernel
theorem dX12_reading_44 : decode cX12_reading 44 = .ok (.aload_n 0, 1) := by decide +kernel
theorem dX12_reading_45 : decode cX12_reading 45 = .ok (.invokevirtual 97, 3) := by decide +kernel
theorem dX12_reading_48 : decode cX12_reading 48 = .ok (.ireturn, 1) := by decide +kernel
theorem dX12_reading_49 : decode cX12_reading 49 = .ok (.bipush 47, 2) := by decide +kernel
theorem dX12_reading_51 : decode cX12_reading 51 = .ok (.iconst 3, 1) := by decide +kernel
theorem dX12_reading_52 : decode cX12_reading 52 = .ok (.aload_n 0, 1) := by decide +kernel
theorem dX12_reading_53 : decode cX12_reading 53 = .ok (.getfield 7, 3) := by decide +kernel
theorem dX12_reading_56 : decode cX12_reading 56 = .ok (.iconst 4, 1) := by decide +kernel
theorem dX12_reading_57 : decode cX12_reading 57 = .ok (.iaload, 1) := by decide +kernel
theorem dX12_reading_58 : decode cX12_reading 58 = .ok (.imul, 1) := by decide +kernel
theorem dX12_reading_59 : decode cX12_reading 59 = .ok (.iadd, 1) := by decide +kernel
theorem dX12_reading_60 : decode cX12_reading 60 = .ok (.istore 4, 2) := by decide +kernel
theorem dX12_reading_62 : decode cX12_reading 62 = .ok (.aload_n 0, 1) := by decide +kernel
theorem dX12_reading_63 : decode cX12_reading 63 = .ok (.getfield 7, 3) := by decide +kernel
theorem dX12_reading_66 : decode cX12_reading 66 = .ok (.iload 4, 2) := by decide +kernel
theorem dX12_reading_68 : decode cX12_reading 68 = .ok (.iload_n 1, 1) := by decide +kernel
theorem dX12_reading_69 : decode cX12_reading 69 = .ok (.iastore, 1) := by decide +kernel
theorem dX12_reading_70 : decode cX12_reading 70 = .ok (.aload_n 0, 1) := by decide +kernel
theorem dX12_reading_71 : decode cX12_reading 71 = .ok (.getfield 7, 3) := by decide +kernel
theorem dX12_reading_74 : decode cX12_reading 74 = .ok (.iload 4, 2) := by decide +kernel
theorem dX12_reading_76 : decode cX12_reading 76 = .ok (.iconst 1, 1) := by decide +kernel
theorem dX12_reading_77 : decode cX12_reading 77 = .ok (.iadd, 1) := by decide +kernel
theorem dX12_reading_78 : decode cX12_reading 78 = .ok (.iload_n 2, 1) := by decide +kernel
theorem dX12_reading_79 : decode cX12_reading 79 = .ok (.iastore, 1) := by decide +kernel
theorem dX12_reading_80 : decode cX12_reading 80 = .ok (.aload_n 0, 1) := by decide +kernel
theorem dX12_reading_81 : decode cX12_reading 81 = .ok (.getfield 7, 3) := by decide +kernel
theorem dX12_reading_84 : decode cX12_reading 84 = .ok (.iload 4, 2) := by decide +kernel
theorem dX12_reading_86 : decode cX12_reading 86 = .ok (.iconst 2, 1) := by decide +kernel
theorem dX12_reading_87 : decode cX12_reading 87 = .ok (.iadd, 1) := by decide +kernel
theorem dX12_reading_88 : decode cX12_reading 88 = .ok (.iload_n 3, 1) := by decide +kernel
theorem dX12_reading_89 : decode cX12_reading 89 = .ok (.iastore, 1) := by decide +kernel
theorem dX12_reading_90 : decode cX12_reading 90 = .ok (.aload_n 0, 1) := by decide +kernel
theorem dX12_reading_91 : decode cX12_reading 91 = .ok (.getfield 7, 3) := by decide +kernel
theorem dX12_reading_94 : decode cX12_reading 94 = .ok (.iconst 4, 1) := by decide +kernel
theorem dX12_reading_95 : decode cX12_reading 95 = .ok (.dup2, 1) := by decide +kernel
theorem dX12_reading_96 : decode cX12_reading 96 = .ok (.iaload, 1) := by decide +kernel
theorem dX12_reading_97 : decode cX12_reading 97 = .ok (.iconst 1, 1) := by decide +kernel
theorem dX12_reading_98 : decode cX12_reading 98 = .ok (.iadd, 1) := by decide +kernel
theorem dX12_reading_99 : decode cX12_reading 99 = .ok (.iastore, 1) := by decide +kernel
theorem dX12_reading_100 : decode cX12_reading 100 = .ok (.aload_n 0, 1) := by decide +kernel
theorem dX12_reading_101 : decode cX12_reading 101 = .ok (.getfield 7, 3) := by decide +kernel
theorem dX12_reading_104 : decode cX12_reading 104 = .ok (.iconst 4, 1) := by decide +kernel
theorem dX12_reading_105 : decode cX12_reading 105 = .ok (.iaload, 1) := by decide +kernel
theorem dX12_reading_106 : decode cX12_reading 106 = .ok (.ireturn, 1) := by decide +kernel
theorem dX12_burnt_0 : decode cX12_burnt 0 = .ok (.aload_n 0, 1) := by decide +kernel
theorem dX12_burnt_1 : decode cX12_burnt 1 = .ok (.getfield 7, 3) := by decide +kernel
theorem dX12_burnt_4 : decode cX12_burnt 4 = .ok (.iconst 4, 1) := by decide +kernel
theorem dX12_burnt_5 : decode cX12_burnt 5 = .ok (.iaload, 1) := by decide +kernel
theorem dX12_burnt_6 : decode cX12_burnt 6 = .ok (.istore_n 1, 1) := by decide +kernel
theorem dX12_burnt_7 : decode cX12_burnt 7 = .ok (.aload_n 0, 1) := by decide +kernel
theorem dX12_burnt_8 : decode cX12_burnt 8 = .ok (.getfield 7, 3) := by decide +kernel
theorem dX12_burnt_11 : decode cX12_burnt 11 = .ok (.iconst 4, 1) := by decide +kernel
theorem dX12_burnt_12 : decode cX12_burnt 12 = .ok (.iconst 0, 1) := by decide +kernel
theorem dX12_burnt_13 : decode cX12_burnt 13 = .ok (.iastore, 1) := by decide +kernel
theorem dX12_burnt_14 : decode cX12_burnt 14 = .ok (.iload_n 1, 1) := by decide +kernel
theorem dX12_burnt_15 : decode cX12_burnt 15 = .ok (.ireturn, 1) := by decide +kernel
theorem dX12_areSo_0 : decode cX12_areSo 0 = .ok (.iconst 1, 1) := by decide +kernel
theorem dX12_areSo_1 : decode cX12_areSo 1 = .ok (.istore_n 1, 1) := by decide +kernel
theorem dX12_areSo_2 : decode cX12_areSo 2 = .ok (.iconst 0, 1) := by decide +kernel
theorem dX12_areSo_3 : decode cX12_areSo 3 = .ok (.istore_n 2, 1) := by decide +kernel
theorem dX12_areSo_4 : decode cX12_areSo 4 = .ok (.iload_n 2, 1) := by decide +kernel
theorem dX12_areSo_5 : decode cX12_areSo 5 = .ok (.aload_n 0, 1) := by decide +kernel
theorem dX12_areSo_6 : decode cX12_areSo 6 = .ok (.getfield 7, 3) := by decide +kernel
theorem dX12_areSo_9 : decode cX12_areSo 9 = .ok (.iconst 4, 1) := by decide +kernel
theorem dX12_areSo_10 : decode cX12_areSo 10 = .ok (.iaload, 1) := by decide +kernel
theorem dX12_areSo_11 : decode cX12_areSo 11 = .ok (.if_icmp .ge 55, 3) := by decide +kernel
theorem dX12_areSo_14 : decode cX12_areSo 14 = .ok (.iload_n 1, 1) := by decide +kernel
theorem dX12_areSo_15 : decode cX12_areSo 15 = .ok (.ifCond .eq 51, 3) := by decide +kernel
theorem dX12_areSo_18 : decode cX12_areSo 18 = .ok (.bipush 47, 2) := by decide +kernel
theorem dX12_areSo_20 : decode cX12_areSo 20 = .ok (.iconst 3, 1) := by decide +kernel
theorem dX12_areSo_21 : decode cX12_areSo 21 = .ok (.iload_n 2, 1) := by decide +kernel
theorem dX12_areSo_22 : decode cX12_areSo 22 = .ok (.imul, 1) := by decide +kernel
theorem dX12_areSo_23 : decode cX12_areSo 23 = .ok (.iadd, 1) := by decide +kernel
theorem dX12_areSo_24 : decode cX12_areSo 24 = .ok (.istore_n 3, 1) := by decide +kernel
theorem dX12_areSo_25 : decode cX12_areSo 25 = .ok (.aload_n 0, 1) := by decide +kernel
theorem dX12_areSo_26 : decode cX12_areSo 26 = .ok (.aload_n 0, 1) := by decide +kernel
theorem dX12_areSo_27 : decode cX12_areSo 27 = .ok (.getfield 7, 3) := by decide +kernel
theorem dX12_areSo_30 : decode cX12_areSo 30 = .ok (.iload_n 3, 1) := by decide +kernel
theorem dX12_areSo_31 : decode cX12_areSo 31 = .ok (.iaload, 1) := by decide +kernel
theorem dX12_areSo_32 : decode cX12_areSo 32 = .ok (.aload_n 0, 1) := by decide +kernel
theorem dX12_areSo_33 : decode cX12_areSo 33 = .ok (.getfield 7, 3) := by decide +kernel
theorem dX12_areSo_36 : decode cX12_areSo 36 = .ok (.iload_n 3, 1) := by decide +kernel
theorem dX12_areSo_37 : decode cX12_areSo 37 = .ok (.iconst 1, 1) := by decide +kernel
theorem dX12_areSo_38 : decode cX12_areSo 38 = .ok (.iadd, 1) := by decide +kernel
theorem dX12_areSo_39 : decode cX12_areSo 39 = .ok (.iaload, 1) := by decide +kernel
theorem dX12_areSo_40 : decode cX12_areSo 40 = .ok (.invokevirtual 143, 3) := by decide +kernel
theorem dX12_areSo_43 : decode cX12_areSo 43 = .ok (.aload_n 0, 1) := by decide +kernel
theorem dX12_areSo_44 : decode cX12_areSo 44 = .ok (.getfield 7, 3) := by decide +kernel
theorem dX12_areSo_47 : decode cX12_areSo 47 = .ok (.iload_n 3, 1) := by decide +kernel
theorem dX12_areSo_48 : decode cX12_areSo 48 = .ok (.iconst 2, 1) := by decide +kernel
theorem dX12_areSo_49 : decode cX12_areSo 49 = .ok (.iadd, 1) := by decide +kernel
theorem dX12_areSo_50 : decode cX12_areSo 50 = .ok (.iaload, 1) := by decide +kernel
theorem dX12_areSo_51 : decode cX12_areSo 51 = .ok (.if_icmp .ne 7, 3) := by decide +kernel
theorem dX12_areSo_54 : decode cX12_areSo 54 = .ok (.iconst 1, 1) := by decide +kernel
theorem dX12_areSo_55 : decode cX12_areSo 55 = .ok (.goto 4, 3) := by decide +kernel
theorem dX12_areSo_58 : decode cX12_areSo 58 = .ok (.iconst 0, 1) := by decide +kernel
theorem dX12_areSo_59 : decode cX12_areSo 59 = .ok (.istore_n 1, 1) := by decide +kernel
theorem dX12_areSo_60 : decode cX12_areSo 60 = .ok (.iinc 2 1, 3) := by decide +kernel
theorem dX12_areSo_63 : decode cX12_areSo 63 = .ok (.goto (-59), 3) := by decide +kernel
theorem dX12_areSo_66 : decode cX12_areSo 66 = .ok (.iload_n 1, 1) := by decide +kernel
theorem dX12_areSo_67 : decode cX12_areSo 67 = .ok (.ireturn, 1) := by decide +kernel
theorem dX12_layFits_0 : decode cX12_layFits 0 = .ok (.aload_n 0, 1) := by decide +kernel
theorem dX12_layFits_1 : decode cX12_layFits 1 = .ok (.iconst 0, 1) := by decide +kernel
theorem dX12_layFits_2 : decode cX12_layFits 2 = .ok (.putfield 194, 3) := by decide +kernel
theorem dX12_layFits_5 : decode cX12_layFits 5 = .ok (.aload_n 0, 1) := by decide +kernel
theorem dX12_layFits_6 : decode cX12_layFits 6 = .ok (.invokevirtual 154, 3) := by decide +kernel
theorem dX12_layFits_9 : decode cX12_layFits 9 = .ok (.iconst 0, 1) := by decide +kernel
theorem dX12_layFits_10 : decode cX12_layFits 10 = .ok (.istore_n 1, 1) := by decide +kernel
theorem dX12_layFits_11 : decode cX12_layFits 11 = .ok (.iload_n 1, 1) := by decide +kernel
theorem dX12_layFits_12 : decode cX12_layFits 12 = .ok (.iconst 1, 1) := by decide +kernel
theorem dX12_layFits_13 : decode cX12_layFits 13 = .ok (.aload_n 0, 1) := by decide +kernel
theorem dX12_layFits_14 : decode cX12_layFits 14 = .ok (.invokevirtual 57, 3) := by decide +kernel
theorem dX12_layFits_17 : decode cX12_layFits 17 = .ok (.ishl, 1) := by decide +kernel
theorem dX12_layFits_18 : decode cX12_layFits 18 = .ok (.if_icmp .ge 47, 3) := by decide +kernel
theorem dX12_layFits_21 : decode cX12_layFits 21 = .ok (.aload_n 0, 1) := by decide +kernel
theorem dX12_layFits_22 : decode cX12_layFits 22 = .ok (.iload_n 1, 1) := by decide +kernel
theorem dX12_layFits_23 : decode cX12_layFits 23 = .ok (.putfield 126, 3) := by decide +kernel
theorem dX12_layFits_26 : decode cX12_layFits 26 = .ok (.aload_n 0, 1) := by decide +kernel
theorem dX12_layFits_27 : decode cX12_layFits 27 = .ok (.getfield 42, 3) := by decide +kernel
theorem dX12_layFits_30 : decode cX12_layFits 30 = .ok (.iload_n 1, 1) := by decide +kernel
theorem dX12_layFits_31 : decode cX12_layFits 31 = .ok (.aload_n 0, 1) := by decide +kernel
theorem dX12_layFits_32 : decode cX12_layFits 32 = .ok (.invokevirtual 197, 3) := by decide +kernel
theorem dX12_layFits_35 : decode cX12_layFits 35 = .ok (.bastore, 1) := by decide +kernel
theorem dX12_layFits_36 : decode cX12_layFits 36 = .ok (.aload_n 0, 1) := by decide +kernel
theorem dX12_layFits_37 : decode cX12_layFits 37 = .ok (.dup, 1) := by decide +kernel
theorem dX12_layFits_38 : decode cX12_layFits 38 = .ok (.getfield 194, 3) := by decide +kernel
theorem dX12_layFits_41 : decode cX12_layFits 41 = .ok (.aload_n 0, 1) := by decide +kernel
theorem dX12_layFits_42 : decode cX12_layFits 42 = .ok (.getfield 42, 3) := by decide +kernel
theorem dX12_layFits_45 : decode cX12_layFits 45 = .ok (.iload_n 1, 1) := by decide +kernel
theorem dX12_layFits_46 : decode cX12_layFits 46 = .ok (.baload, 1) := by decide +kernel
theorem dX12_layFits_47 : decode cX12_layFits 47 = .ok (.ifCond .eq 7, 3) := by decide +kernel
theorem dX12_layFits_50 : decode cX12_layFits 50 = .ok (.iconst 1, 1) := by decide +kernel
theorem dX12_layFits_51 : decode cX12_layFits 51 = .ok (.goto 4, 3) := by decide +kernel
theorem dX12_layFits_54 : decode cX12_layFits 54 = .ok (.iconst 0, 1) := by decide +kernel
theorem dX12_layFits_55 : decode cX12_layFits 55 = .ok (.iadd, 1) := by decide +kernel
theorem dX12_layFits_56 : decode cX12_layFits 56 = .ok (.putfield 194, 3) := by decide +kernel
theorem dX12_layFits_59 : decode cX12_layFits 59 = .ok (.iinc 1 1, 3) := by decide +kernel
theorem dX12_layFits_62 : decode cX12_layFits 62 = .ok (.goto (-51), 3) := by decide +kernel
theorem dX12_layFits_65 : decode cX12_layFits 65 = .ok (.return_, 1) := by decide +kernel
theorem dX12_burn_0 : decode cX12_burn 0 = .ok (.iload_n 1, 1) := by decide +kernel
theorem dX12_burn_1 : decode cX12_burn 1 = .ok (.i2l, 1) := by decide +kernel
theorem dX12_burn_2 : decode cX12_burn 2 = .ok (.lconst 0, 1) := by decide +kernel
theorem dX12_burn_3 : decode cX12_burn 3 = .ok (.lconst 1, 1) := by decide +kernel
theorem dX12_burn_4 : decode cX12_burn 4 = .ok (.invokestatic 61, 3) := by decide +kernel
theorem dX12_burn_7 : decode cX12_burn 7 = .ok (.ifCond .ne 10, 3) := by decide +kernel
theorem dX12_burn_10 : decode cX12_burn 10 = .ok (.aload_n 0, 1) := by decide +kernel
theorem dX12_burn_11 : decode cX12_burn 11 = .ok (.bipush (-10), 2) := by decide +kernel
theorem dX12_burn_13 : decode cX12_burn 13 = .ok (.invokevirtual 75, 3) := by decide +kernel
theorem dX12_burn_16 : decode cX12_burn 16 = .ok (.ireturn, 1) := by decide +kernel
theorem dX12_burn_17 : decode cX12_burn 17 = .ok (.iconst 1, 1) := by decide +kernel
theorem dX12_burn_18 : decode cX12_burn 18 = .ok (.aload_n 0, 1) := by decide +kernel
theorem dX12_burn_19 : decode cX12_burn 19 = .ok (.invokevirtual 57, 3) := by decide +kernel
theorem dX12_burn_22 : decode cX12_burn 22 = .ok (.ishl, 1) := by decide +kernel
theorem dX12_burn_23 : decode cX12_burn 23 = .ok (.iconst 1, 1) := by decide +kernel
theorem dX12_burn_24 : decode cX12_burn 24 = .ok (.isub, 1) := by decide +kernel
theorem dX12_burn_25 : decode cX12_burn 25 = .ok (.istore_n 2, 1) := by decide +kernel
theorem dX12_burn_26 : decode cX12_burn 26 = .ok (.aload_n 0, 1) := by decide +kernel
theorem dX12_burn_27 : decode cX12_burn 27 = .ok (.invokevirtual 201, 3) := by decide +kernel
theorem dX12_burn_30 : decode cX12_burn 30 = .ok (.iconst 0, 1) := by decide +kernel
theorem dX12_burn_31 : decode cX12_burn 31 = .ok (.istore_n 3, 1) := by decide +kernel
theorem dX12_burn_32 : decode cX12_burn 32 = .ok (.iload_n 3, 1) := by decide +kernel
theorem dX12_burn_33 : decode cX12_burn 33 = .ok (.iconst 1, 1) := by decide +kernel
theorem dX12_burn_34 : decode cX12_burn 34 = .ok (.aload_n 0, 1) := by decide +kernel
theorem dX12_burn_35 : decode cX12_burn 35 = .ok (.invokevirtual 57, 3) := by decide +kernel
theorem dX12_burn_38 : decode cX12_burn 38 = .ok (.ishl, 1) := by decide +kernel
theorem dX12_burn_39 : decode cX12_burn 39 = .ok (.if_icmp .ge 26, 3) := by decide +kernel
theorem dX12_burn_42 : decode cX12_burn 42 = .ok (.iload_n 2, 1) := by decide +kernel
theorem dX12_burn_43 : decode cX12_burn 43 = .ok (.aload_n 0, 1) := by decide +kernel
theorem dX12_burn_44 : decode cX12_burn 44 = .ok (.getfield 42, 3) := by decide +kernel
theorem dX12_burn_47 : decode cX12_burn 47 = .ok (.iload_n 3, 1) := by decide +kernel
theorem dX12_burn_48 : decode cX12_burn 48 = .ok (.baload, 1) := by decide +kernel
theorem dX12_burn_49 : decode cX12_burn 49 = .ok (.ifCond .eq 7, 3) := by decide +kernel
theorem dX12_burn_52 : decode cX12_burn 52 = .ok (.iload_n 3, 1) := by decide +kernel
theorem dX12_burn_53 : decode cX12_burn 53 = .ok (.goto 4, 3) := by decide +kernel
theorem dX12_burn_56 : decode cX12_burn 56 = .ok (.iconst (-1), 1) := by decide +kernel
theorem dX12_burn_57 : decode cX12_burn 57 = .ok (.iand, 1) := by decide +kernel
theorem dX12_burn_58 : decode cX12_burn 58 = .ok (.istore_n 2, 1) := by decide +kernel
theorem dX12_burn_59 : decode cX12_burn 59 = .ok (.iinc 3 1, 3) := by decide +kernel
theorem dX12_burn_62 : decode cX12_burn 62 = .ok (.goto (-30), 3) := by decide +kernel
theorem dX12_burn_65 : decode cX12_burn 65 = .ok (.iload_n 1, 1) := by decide +kernel
theorem dX12_burn_66 : decode cX12_burn 66 = .ok (.ifCond .ne 10, 3) := by decide +kernel
theorem dX12_burn_69 : decode cX12_burn 69 = .ok (.aload_n 0, 1) := by decide +kernel
theorem dX12_burn_70 : decode cX12_burn 70 = .ok (.getfield 194, 3) := by decide +kernel
theorem dX12_burn_73 : decode cX12_burn 73 = .ok (.goto 15, 3) := by decide +kernel
theorem dX12_burn_76 : decode cX12_burn 76 = .ok (.aload_n 0, 1) := by decide +kernel
theorem dX12_burn_77 : decode cX12_burn 77 = .ok (.getfield 194, 3) := by decide +kernel
theorem dX12_burn_80 : decode cX12_burn 80 = .ok (.ifCond .ne 7, 3) := by decide +kernel
theorem dX12_burn_83 : decode cX12_burn 83 = .ok (.iconst (-1), 1) := by decide +kernel
theorem dX12_burn_84 : decode cX12_burn 84 = .ok (.goto 4, 3) := by decide +kernel
theorem dX12_burn_87 : decode cX12_burn 87 = .ok (.iload_n 2, 1) := by decide +kernel
theorem dX12_burn_88 : decode cX12_burn 88 = .ok (.ireturn, 1) := by decide +kernel
theorem dX12_mostLike_0 : decode cX12_mostLike 0 = .ok (.iconst 0, 1) := by decide +kernel
theorem dX12_mostLike_1 : decode cX12_mostLike 1 = .ok (.istore_n 3, 1) := by decide +kernel
theorem dX12_mostLike_2 : decode cX12_mostLike 2 = .ok (.iconst 0, 1) := by decide +kernel
theorem dX12_mostLike_3 : decode cX12_mostLike 3 = .ok (.istore 4, 2) := by decide +kernel
theorem dX12_mostLike_5 : decode cX12_mostLike 5 = .ok (.iload 4, 2) := by decide +kernel
theorem dX12_mostLike_7 : decode cX12_mostLike 7 = .ok (.bipush 24, 2) := by decide +kernel
theorem dX12_mostLike_9 : decode cX12_mostLike 9 = .ok (.if_icmp .ge 17, 3) := by decide +kernel
theorem dX12_mostLike_12 : decode cX12_mostLike 12 = .ok (.aload_n 0, 1) := by decide +kernel
theorem dX12_mostLike_13 : decode cX12_mostLike 13 = .ok (.getfield 45, 3) := by decide +kernel
theorem dX12_mostLike_16 : decode cX12_mostLike 16 = .ok (.iload 4, 2) := by decide +kernel
theorem dX12_mostLike_18 : decode cX12_mostLike 18 = .ok (.iconst 0, 1) := by decide +kernel
theorem dX12_mostLike_19 : decode cX12_mostLike 19 = .ok (.iastore, 1) := by decide +kernel
theorem dX12_mostLike_20 : decode cX12_mostLike 20 = .ok (.iinc 4 1, 3) := by decide +kernel
theorem dX12_mostLike_23 : decode cX12_mostLike 23 = .ok (.goto (-18), 3) := by decide +kernel
theorem dX12_mostLike_26 : decode cX12_mostLike 26 = .ok (.iconst 0, 1) := by decide +kernel
theorem dX12_mostLike_27 : decode cX12_mostLike 27 = .ok (.istore 4, 2) := by decide +kernel
theorem dX12_mostLike_29 : decode cX12_mostLike 29 = .ok (.iload 4, 2) := by decide +kernel
theorem dX12_mostLike_31 : decode cX12_mostLike 31 = .ok (.iconst 1, 1) := by decide +kernel
theorem dX12_mostLike_32 : decode cX12_mostLike 32 = .ok (.aload_n 0, 1) := by decide +kernel
theorem dX12_mostLike_33 : decode cX12_mostLike 33 = .ok (.invokevirtual 57, 3) := by decide +kernel
theorem dX12_mostLike_36 : decode cX12_mostLike 36 = .ok (.ishl, 1) := by decide +kernel
theorem dX12_mostLike_37 : decode cX12_mostLike 37 = .ok (.if_icmp .ge 67, 3) := by decide +kernel
theorem dX12_mostLike_40 : decode cX12_mostLike 40 = .ok (.aload_n 0, 1) := by decide +kernel
theorem dX12_mostLike_41 : decode cX12_mostLike 41 = .ok (.getfield 42, 3) := by decide +kernel
theorem dX12_mostLike_44 : decode cX12_mostLike 44 = .ok (.iload 4, 2) := by decide +kernel
theorem dX12_mostLike_46 : decode cX12_mostLike 46 = .ok (.baload, 1) := by decide +kernel
theorem dX12_mostLike_47 : decode cX12_mostLike 47 = .ok (.ifCond .eq 51, 3) := by decide +kernel
theorem dX12_mostLike_50 : decode cX12_mostLike 50 = .ok (.aload_n 0, 1) := by decide +kernel
theorem dX12_mostLike_51 : decode cX12_mostLike 51 = .ok (.iload 4, 2) := by decide +kernel
theorem dX12_mostLike_53 : decode cX12_mostLike 53 = .ok (.putfield 126, 3) := by decide +kernel
theorem dX12_mostLike_56 : decode cX12_mostLike 56 = .ok (.aload_n 0, 1) := by decide +kernel
theorem dX12_mostLike_57 : decode cX12_mostLike 57 = .ok (.iload_n 1, 1) := by decide +kernel
theorem dX12_mostLike_58 : decode cX12_mostLike 58 = .ok (.iload_n 2, 1) := by decide +kernel
theorem dX12_mostLike_59 : decode cX12_mostLike 59 = .ok (.invokevirtual 143, 3) := by decide +kernel
theorem dX12_mostLike_62 : decode cX12_mostLike 62 = .ok (.istore 5, 2) := by decide +kernel
theorem dX12_mostLike_64 : decode cX12_mostLike 64 = .ok (.aload_n 0, 1) := by decide +kernel
theorem dX12_mostLike_65 : decode cX12_mostLike 65 = .ok (.getfield 45, 3) := by decide +kernel
theorem dX12_mostLike_68 : decode cX12_mostLike 68 = .ok (.iload 5, 2) := by decide +kernel
theorem dX12_mostLike_70 : decode cX12_mostLike 70 = .ok (.dup2, 1) := by decide +kernel
theorem dX12_mostLike_71 : decode cX12_mostLike 71 = .ok (.iaload, 1) := by decide +kernel
theorem dX12_mostLike_72 : decode cX12_mostLike 72 = .ok (.iconst 1, 1) := by decide +kernel
theorem dX12_mostLike_73 : decode cX12_mostLike 73 = .ok (.iadd, 1) := by decide +kernel
theorem dX12_mostLike_74 : decode cX12_mostLike 74 = .ok (.iastore, 1) := by decide +kernel
theorem dX12_mostLike_75 : decode cX12_mostLike 75 = .ok (.aload_n 0, 1) := by decide +kernel
theorem dX12_mostLike_76 : decode cX12_mostLike 76 = .ok (.getfield 45, 3) := by decide +kernel
theorem dX12_mostLike_79 : decode cX12_mostLike 79 = .ok (.iload 5, 2) := by decide +kernel
theorem dX12_mostLike_81 : decode cX12_mostLike 81 = .ok (.iaload, 1) := by decide +kernel
theorem dX12_mostLike_82 : decode cX12_mostLike 82 = .ok (.iload_n 3, 1) := by decide +kernel
theorem dX12_mostLike_83 : decode cX12_mostLike 83 = .ok (.if_icmp .le 13, 3) := by decide +kernel
theorem dX12_mostLike_86 : decode cX12_mostLike 86 = .ok (.aload_n 0, 1) := by decide +kernel
theorem dX12_mostLike_87 : decode cX12_mostLike 87 = .ok (.getfield 45, 3) := by decide +kernel
theorem dX12_mostLike_90 : decode cX12_mostLike 90 = .ok (.iload 5, 2) := by decide +kernel
theorem dX12_mostLike_92 : decode cX12_mostLike 92 = .ok (.iaload, 1) := by decide +kernel
theorem dX12_mostLike_93 : decode cX12_mostLike 93 = .ok (.goto 4, 3) := by decide +kernel
theorem dX12_mostLike_96 : decode cX12_mostLike 96 = .ok (.iload_n 3, 1) := by decide +kernel
theorem dX12_mostLike_97 : decode cX12_mostLike 97 = .ok (.istore_n 3, 1) := by decide +kernel
theorem dX12_mostLike_98 : decode cX12_mostLike 98 = .ok (.iinc 4 1, 3) := by decide +kernel
theorem dX12_mostLike_101 : decode cX12_mostLike 101 = .ok (.goto (-72), 3) := by decide +kernel
theorem dX12_mostLike_104 : decode cX12_mostLike 104 = .ok (.iload_n 3, 1) := by decide +kernel
theorem dX12_mostLike_105 : decode cX12_mostLike 105 = .ok (.ireturn, 1) := by decide +kernel
theorem dX12_measure_0 : decode cX12_measure 0 = .ok (.iload_n 1, 1) := by decide +kernel
theorem dX12_measure_1 : decode cX12_measure 1 = .ok (.invokestatic 151, 3) := by decide +kernel
theorem dX12_measure_4 : decode cX12_measure 4 = .ok (.ifCond .ne 10, 3) := by decide +kernel
theorem dX12_measure_7 : decode cX12_measure 7 = .ok (.aload_n 0, 1) := by decide +kernel
theorem dX12_measure_8 : decode cX12_measure 8 = .ok (.bipush (-2), 2) := by decide +kernel
theorem dX12_measure_10 : decode cX12_measure 10 = .ok (.invokevirtual 75, 3) := by decide +kernel
theorem dX12_measure_13 : decode cX12_measure 13 = .ok (.ireturn, 1) := by decide +kernel
theorem dX12_measure_14 : decode cX12_measure 14 = .ok (.iconst (-1), 1) := by decide +kernel
theorem dX12_measure_15 : decode cX12_measure 15 = .ok (.istore_n 2, 1) := by decide +kernel
theorem dX12_measure_16 : decode cX12_measure 16 = .ok (.ldc 175, 2) := by decide +kernel
theorem dX12_measure_18 : decode cX12_measure 18 = .ok (.istore_n 3, 1) := by decide +kernel
theorem dX12_measure_19 : decode cX12_measure 19 = .ok (.aload_n 0, 1) := by decide +kernel
theorem dX12_measure_20 : decode cX12_measure 20 = .ok (.invokevirtual 201, 3) := by decide +kernel
theorem dX12_measure_23 : decode cX12_measure 23 = .ok (.iconst 0, 1) := by decide +kernel
theorem dX12_measure_24 : decode cX12_measure 24 = .ok (.istore 4, 2) := by decide +kernel
theorem dX12_measure_26 : decode cX12_measure 26 = .ok (.iload 4, 2) := by decide +kernel
theorem dX12_measure_28 : decode cX12_measure 28 = .ok (.bipush 64, 2) := by decide +kernel
theorem dX12_measure_30 : decode cX12_measure 30 = .ok (.if_icmp .ge 51, 3) := by decide +kernel
theorem dX12_measure_33 : decode cX12_measure 33 = .ok (.aload_n 0, 1) := by decide +kernel
theorem dX12_measure_34 : decode cX12_measure 34 = .ok (.getfield 194, 3) := by decide +kernel
theorem dX12_measure_37 : decode cX12_measure 37 = .ok (.ifCond .le 44, 3) := by decide +kernel
theorem dX12_measure_40 : decode cX12_measure 40 = .ok (.aload_n 0, 1) := by decide +kernel
theorem dX12_measure_41 : decode cX12_measure 41 = .ok (.iload 4, 2) := by decide +kernel
theorem dX12_measure_43 : decode cX12_measure 43 = .ok (.iload_n 1, 1) := by decide +kernel
theorem dX12_measure_44 : decode cX12_measure 44 = .ok (.invokevirtual 204, 3) := by decide +kernel
theorem dX12_measure_47 : decode cX12_measure 47 = .ok (.istore 5, 2) := by decide +kernel
theorem dX12_measure_49 : decode cX12_measure 49 = .ok (.iload 5, 2) := by decide +kernel
theorem dX12_measure_51 : decode cX12_measure 51 = .ok (.iload_n 3, 1) := by decide +kernel
theorem dX12_measure_52 : decode cX12_measure 52 = .ok (.if_icmp .ge 8, 3) := by decide +kernel
theorem dX12_measure_55 : decode cX12_measure 55 = .ok (.iload 4, 2) := by decide +kernel
theorem dX12_measure_57 : decode cX12_measure 57 = .ok (.goto 4, 3) := by decide +kernel
theorem dX12_measure_60 : decode cX12_measure 60 = .ok (.iload_n 2, 1) := by decide +kernel
theorem dX12_measure_61 : decode cX12_measure 61 = .ok (.istore_n 2, 1) := by decide +kernel
theorem dX12_measure_62 : decode cX12_measure 62 = .ok (.iload 5, 2) := by decide +kernel
theorem dX12_measure_64 : decode cX12_measure 64 = .ok (.iload_n 3, 1) := by decide +kernel
theorem dX12_measure_65 : decode cX12_measure 65 = .ok (.if_icmp .ge 8, 3) := by decide +kernel
theorem dX12_measure_68 : decode cX12_measure 68 = .ok (.iload 5, 2) := by decide +kernel
theorem dX12_measure_70 : decode cX12_measure 70 = .ok (.goto 4, 3) := by decide +kernel
theorem dX12_measure_73 : decode cX12_measure 73 = .ok (.iload_n 3, 1) := by decide +kernel
theorem dX12_measure_74 : decode cX12_measure 74 = .ok (.istore_n 3, 1) := by decide +kernel
theorem dX12_measure_75 : decode cX12_measure 75 = .ok (.iinc 4 1, 3) := by decide +kernel
theorem dX12_measure_78 : decode cX12_measure 78 = .ok (.goto (-52), 3) := by decide +kernel
theorem dX12_measure_81 : decode cX12_measure 81 = .ok (.iload_n 2, 1) := by decide +kernel
theorem dX12_measure_82 : decode cX12_measure 82 = .ok (.ireturn, 1) := by decide +kernel
theorem dX12_fraction_0 : decode cX12_fraction 0 = .ok (.lload_n 1, 1) := by decide +kernel
theorem dX12_fraction_1 : decode cX12_fraction 1 = .ok (.lstore 5, 2) := by decide +kernel
theorem dX12_fraction_3 : decode cX12_fraction 3 = .ok (.lload_n 3, 1) := by decide +kernel
theorem dX12_fraction_4 : decode cX12_fraction 4 = .ok (.lstore 7, 2) := by decide +kernel
theorem dX12_fraction_6 : decode cX12_fraction 6 = .ok (.lload 7, 2) := by decide +kernel
theorem dX12_fraction_8 : decode cX12_fraction 8 = .ok (.lconst 0, 1) := by decide +kernel
theorem dX12_fraction_9 : decode cX12_fraction 9 = .ok (.lcmp, 1) := by decide +kernel
theorem dX12_fraction_10 : decode cX12_fraction 10 = .ok (.ifCond .eq 21, 3) := by decide +kernel
theorem dX12_fraction_13 : decode cX12_fraction 13 = .ok (.lload 5, 2) := by decide +kernel
theorem dX12_fraction_15 : decode cX12_fraction 15 = .ok (.lload 7, 2) := by decide +kernel
theorem dX12_fraction_17 : decode cX12_fraction 17 = .ok (.lrem, 1) := by decide +kernel
theorem dX12_fraction_18 : decode cX12_fraction 18 = .ok (.lstore 9, 2) := by decide +kernel
theorem dX12_fraction_20 : decode cX12_fraction 20 = .ok (.lload 7, 2) := by decide +kernel
theorem dX12_fraction_22 : decode cX12_fraction 22 = .ok (.lstore 5, 2) := by decide +kernel
theorem dX12_fraction_24 : decode cX12_fraction 24 = .ok (.lload 9, 2) := by decide +kernel
theorem dX12_fraction_26 : decode cX12_fraction 26 = .ok (.lstore 7, 2) := by decide +kernel
theorem dX12_fraction_28 : decode cX12_fraction 28 = .ok (.goto (-22), 3) := by decide +kernel
theorem dX12_fraction_31 : decode cX12_fraction 31 = .ok (.aload_n 0, 1) := by decide +kernel
theorem dX12_fraction_32 : decode cX12_fraction 32 = .ok (.lload_n 1, 1) := by decide +kernel
theorem dX12_fraction_33 : decode cX12_fraction 33 = .ok (.lload 5, 2) := by decide +kernel
theorem dX12_fraction_35 : decode cX12_fraction 35 = .ok (.ldiv, 1) := by decide +kernel
theorem dX12_fraction_36 : decode cX12_fraction 36 = .ok (.putfield 207, 3) := by decide +kernel
theorem dX12_fraction_39 : decode cX12_fraction 39 = .ok (.aload_n 0, 1) := by decide +kernel
theorem dX12_fraction_40 : decode cX12_fraction 40 = .ok (.lload_n 3, 1) := by decide +kernel
theorem dX12_fraction_41 : decode cX12_fraction 41 = .ok (.lload 5, 2) := by decide +kernel
theorem dX12_fraction_43 : decode cX12_fraction 43 = .ok (.ldiv, 1) := by decide +kernel
theorem dX12_fraction_44 : decode cX12_fraction 44 = .ok (.putfield 23, 3) := by decide +kernel
theorem dX12_fraction_47 : decode cX12_fraction 47 = .ok (.return_, 1) := by decide +kernel
theorem dX12_draught_0 : decode cX12_draught 0 = .ok (.iload_n 1, 1) := by decide +kernel
theorem dX12_draught_1 : decode cX12_draught 1 = .ok (.invokestatic 85, 3) := by decide +kernel
theorem dX12_draught_4 : decode cX12_draught 4 = .ok (.ifCond .eq 35, 3) := by decide +kernel
theorem dX12_draught_7 : decode cX12_draught 7 = .ok (.iload_n 2, 1) := by decide +kernel
theorem dX12_draught_8 : decode cX12_draught 8 = .ok (.invokestatic 151, 3) := by decide +kernel
theorem dX12_draught_11 : decode cX12_draught 11 = .ok (.ifCond .eq 28, 3) := by decide +kernel
theorem dX12_draught_14 : decode cX12_draught 14 = .ok (.iload_n 3, 1) := by decide +kernel
theorem dX12_draught_15 : decode cX12_draught 15 = .ok (.i2l, 1) := by decide +kernel
theorem dX12_draught_16 : decode cX12_draught 16 = .ok (.lconst 0, 1) := by decide +kernel
theorem dX12_draught_17 : decode cX12_draught 17 = .ok (.ldc2_w 192, 3) := by decide +kernel
theorem dX12_draught_20 : decode cX12_draught 20 = .ok (.invokestatic 61, 3) := by decide +kernel
theorem dX12_draught_23 : decode cX12_draught 23 = .ok (.ifCond .eq 16, 3) := by decide +kernel
theorem dX12_draught_26 : decode cX12_draught 26 = .ok (.iload 4, 2) := by decide +kernel
theorem dX12_draught_28 : decode cX12_draught 28 = .ok (.i2l, 1) := by decide +kernel
theorem dX12_draught_29 : decode cX12_draught 29 = .ok (.lconst 0, 1) := by decide +kernel
theorem dX12_draught_30 : decode cX12_draught 30 = .ok (.ldc2_w 210, 3) := by decide +kernel
theorem dX12_draught_33 : decode cX12_draught 33 = .ok (.invokestatic 61, 3) := by decide +kernel
theorem dX12_draught_36 : decode cX12_draught 36 = .ok (.ifCond .ne 10, 3) := by decide +kernel
theorem dX12_draught_39 : decode cX12_draught 39 = .ok (.aload_n 0, 1) := by decide +kernel
theorem dX12_draught_40 : decode cX12_draught 40 = .ok (.bipush (-2), 2) := by decide +kernel
theorem dX12_draught_42 : decode cX12_draught 42 = .ok (.invokevirtual 75, 3) := by decide +kernel
theorem dX12_draught_45 : decode cX12_draught 45 = .ok (.ireturn, 1) := by decide +kernel
theorem dX12_draught_46 : decode cX12_draught 46 = .ok (.lconst 0, 1) := by decide +kernel
theorem dX12_draught_47 : decode cX12_draught 47 = .ok (.lstore 5, 2) := by decide +kernel
theorem dX12_draught_49 : decode cX12_draught 49 = .ok (.lconst 1, 1) := by decide +kernel
theorem dX12_draught_50 : decode cX12_draught 50 = .ok (.lstore 7, 2) := by decide +kernel
theorem dX12_draught_52 : decode cX12_draught 52 = .ok (.aload_n 0, 1) := by decide +kernel
theorem dX12_draught_53 : decode cX12_draught 53 = .ok (.invokevirtual 154, 3) := by decide +kernel
theorem dX12_draught_56 : decode cX12_draught 56 = .ok (.iconst 0, 1) := by decide +kernel
theorem dX12_draught_57 : decode cX12_draught 57 = .ok (.istore 9, 2) := by decide +kernel
theorem dX12_draught_59 : decode cX12_draught 59 = .ok (.iload 9, 2) := by decide +kernel
theorem dX12_draught_61 : decode cX12_draught 61 = .ok (.aload_n 0, 1) := by decide +kernel
theorem dX12_draught_62 : decode cX12_draught 62 = .ok (.getfield 7, 3) := by decide +kernel
theorem dX12_draught_65 : decode cX12_draught 65 = .ok (.iconst 2, 1) := by decide +kernel
theorem dX12_draught_66 : decode cX12_draught 66 = .ok (.iaload, 1) := by decide +kernel
theorem dX12_draught_67 : decode cX12_draught 67 = .ok (.invokestatic 162, 3) := by decide +kernel
theorem dX12_draught_70 : decode cX12_draught 70 = .ok (.if_icmp .ge 17, 3) := by decide +kernel
theorem dX12_draught_73 : decode cX12_draught 73 = .ok (.lload 7, 2) := by decide +kernel
theorem dX12_draught_75 : decode cX12_draught 75 = .ok (.ldc2_w 210, 3) := by decide +kernel
theorem dX12_draught_78 : decode cX12_draught 78 = .ok (.lmul, 1) := by decide +kernel
theorem dX12_draught_79 : decode cX12_draught 79 = .ok (.lstore 7, 2) := by decide +kernel
theorem dX12_draught_81 : decode cX12_draught 81 = .ok (.iinc 9 1, 3) := by decide +kernel
theorem dX12_draught_84 : decode cX12_draught 84 = .ok (.goto (-25), 3) := by decide +kernel
theorem dX12_draught_87 : decode cX12_draught 87 = .ok (.iconst 0, 1) := by decide +kernel
theorem dX12_draught_88 : decode cX12_draught 88 = .ok (.istore 9, 2) := by decide +kernel
theorem dX12_draught_90 : decode cX12_draught 90 = .ok (.iload 9, 2) := by decide +kernel
theorem dX12_draught_92 : decode cX12_draught 92 = .ok (.iconst 1, 1) := by decide +kernel
theorem dX12_draught_93 : decode cX12_draught 93 = .ok (.aload_n 0, 1) := by decide +kernel
theorem dX12_draught_94 : decode cX12_draught 94 = .ok (.invokevirtual 57, 3) := by decide +kernel
theorem dX12_draught_97 : decode cX12_draught 97 = .ok (.ishl, 1) := by decide +kernel
theorem dX12_draught_98 : decode cX12_draught 98 = .ok (.if_icmp .ge 113, 3) := by decide +kernel
theorem dX12_draught_101 : decode cX12_draught 101 = .ok (.aload_n 0, 1) := by decide +kernel
theorem dX12_draught_102 : decode cX12_draught 102 = .ok (.iload 9, 2) := by decide +kernel
theorem dX12_draught_104 : decode cX12_draught 104 = .ok (.putfield 126, 3) := by decide +kernel
theorem dX12_draught_107 : decode cX12_draught 107 = .ok (.iload 9, 2) := by decide +kernel
theorem dX12_draught_109 : decode cX12_draught 109 = .ok (.aload_n 0, 1) := by decide +kernel
theorem dX12_draught_110 : decode cX12_draught 110 = .ok (.getfield 7, 3) := by decide +kernel
theorem dX12_draught_113 : decode cX12_draught 113 = .ok (.iconst 2, 1) := by decide +kernel
theorem dX12_draught_114 : decode cX12_draught 114 = .ok (.iaload, 1) := by decide +kernel
theorem dX12_draught_115 : decode cX12_draught 115 = .ok (.iconst (-1), 1) := by decide +kernel
theorem dX12_draught_116 : decode cX12_draught 116 = .ok (.ixor, 1) := by decide +kernel
theorem dX12_draught_117 : decode cX12_draught 117 = .ok (.iand, 1) := by decide +kernel
theorem dX12_draught_118 : decode cX12_draught 118 = .ok (.ifCond .ne 87, 3) := by decide +kernel
theorem dX12_draught_121 : decode cX12_draught 121 = .ok (.aload_n 0, 1) := by decide +kernel
theorem dX12_draught_122 : decode cX12_draught 122 = .ok (.iload_n 1, 1) := by decide +kernel
theorem dX12_draught_123 : decode cX12_draught 123 = .ok (.iload_n 2, 1) := by decide +kernel
theorem dX12_draught_124 : decode cX12_draught 124 = .ok (.invokevirtual 143, 3) := by decide +kernel
theorem dX12_draught_127 : decode cX12_draught 127 = .ok (.iload_n 3, 1) := by decide +kernel
theorem dX12_draught_128 : decode cX12_draught 128 = .ok (.if_icmp .lt 77, 3) := by decide +kernel
theorem dX12_draught_131 : decode cX12_draught 131 = .ok (.lconst 1, 1) := by decide +kernel
theorem dX12_draught_132 : decode cX12_draught 132 = .ok (.lstore 10, 2) := by decide +kernel
theorem dX12_draught_134 : decode cX12_draught 134 = .ok (.iconst 0, 1) := by decide +kernel
theorem dX12_draught_135 : decode cX12_draught 135 = .ok (.istore 12, 2) := by decide +kernel
theorem dX12_draught_137 : decode cX12_draught 137 = .ok (.iload 12, 2) := by decide +kernel
theorem dX12_draught_139 : decode cX12_draught 139 = .ok (.aload_n 0, 1) := by decide +kernel
theorem dX12_draught_140 : decode cX12_draught 140 = .ok (.invokevirtual 57, 3) := by decide +kernel
theorem dX12_draught_143 : decode cX12_draught 143 = .ok (.if_icmp .ge 55, 3) := by decide +kernel
theorem dX12_draught_146 : decode cX12_draught 146 = .ok (.lload 10, 2) := by decide +kernel
theorem dX12_draught_148 : decode cX12_draught 148 = .ok (.aload_n 0, 1) := by decide +kernel
theorem dX12_draught_149 : decode cX12_draught 149 = .ok (.getfield 7, 3) := by decide +kernel
theorem dX12_draught_152 : decode cX12_draught 152 = .ok (.iconst 2, 1) := by decide +kernel
theorem dX12_draught_153 : decode cX12_draught 153 = .ok (.iaload, 1) := by decide +kernel
theorem dX12_draught_154 : decode cX12_draught 154 = .ok (.iload 12, 2) := by decide +kernel
theorem dX12_draught_156 : decode cX12_draught 156 = .ok (.ishr, 1) := by decide +kernel
theorem dX12_draught_157 : decode cX12_draught 157 = .ok (.iconst 1, 1) := by decide +kernel
theorem dX12_draught_158 : decode cX12_draught 158 = .ok (.iand, 1) := by decide +kernel
theorem dX12_draught_159 : decode cX12_draught 159 = .ok (.ifCond .ne 7, 3) := by decide +kernel
theorem dX12_draught_162 : decode cX12_draught 162 = .ok (.lconst 1, 1) := by decide +kernel
theorem dX12_draught_163 : decode cX12_draught 163 = .ok (.goto 26, 3) := by decide +kernel
theorem dX12_draught_166 : decode cX12_draught 166 = .ok (.iload 9, 2) := by decide +kernel
theorem dX12_draught_168 : decode cX12_draught 168 = .ok (.iload 12, 2) := by decide +kernel
theorem dX12_draught_170 : decode cX12_draught 170 = .ok (.ishr, 1) := by decide +kernel
theorem dX12_draught_171 : decode cX12_draught 171 = .ok (.iconst 1, 1) := by decide +kernel
theorem dX12_draught_172 : decode cX12_draught 172 = .ok (.iand, 1) := by decide +kernel
theorem dX12_draught_173 : decode cX12_draught 173 = .ok (.iconst 1, 1) := by decide +kernel
theorem dX12_draught_174 : decode cX12_draught 174 = .ok (.if_icmp .ne 12, 3) := by decide +kernel
theorem dX12_draught_177 : decode cX12_draught 177 = .ok (.bipush 10, 2) := by decide +kernel
theorem dX12_draught_179 : decode cX12_draught 179 = .ok (.iload 4, 2) := by decide +kernel
theorem dX12_draught_181 : decode cX12_draught 181 = .ok (.isub, 1) := by decide +kernel
theorem dX12_draught_182 : decode cX12_draught 182 = .ok (.i2l, 1) := by decide +kernel
theorem dX12_draught_183 : decode cX12_draught 183 = .ok (.goto 6, 3) := by decide +kernel
theorem dX12_draught_186 : decode cX12_draught 186 = .ok (.iload 4, 2) := by decide +kernel
theorem dX12_draught_188 : decode cX12_draught 188 = .ok (.i2l, 1) := by decide +kernel
theorem dX12_draught_189 : decode cX12_draught 189 = .ok (.lmul, 1) := by decide +kernel
theorem dX12_draught_190 : decode cX12_draught 190 = .ok (.lstore 10, 2) := by decide +kernel
theorem dX12_draught_192 : decode cX12_draught 192 = .ok (.iinc 12 1, 3) := by decide +kernel
theorem dX12_draught_195 : decode cX12_draught 195 = .ok (.goto (-58), 3) := by decide +kernel
theorem dX12_draught_198 : decode cX12_draught 198 = .ok (.lload 5, 2) := by decide +kernel
theorem dX12_draught_200 : decode cX12_draught 200 = .ok (.lload 10, 2) := by decide +kernel
theorem dX12_draught_202 : decode cX12_draught 202 = .ok (.ladd, 1) := by decide +kernel
theorem dX12_draught_203 : decode cX12_draught 203 = .ok (.lstore 5, 2) := by decide +kernel
theorem dX12_draught_205 : decode cX12_draught 205 = .ok (.iinc 9 1, 3) := by decide +kernel
theorem dX12_draught_208 : decode cX12_draught 208 = .ok (.goto (-118), 3) := by decide +kernel
theorem dX12_draught_211 : decode cX12_draught 211 = .ok (.aload_n 0, 1) := by decide +kernel
theorem dX12_draught_212 : decode cX12_draught 212 = .ok (.lload 5, 2) := by decide +kernel
theorem dX12_draught_214 : decode cX12_draught 214 = .ok (.lload 7, 2) := by decide +kernel
theorem dX12_draught_216 : decode cX12_draught 216 = .ok (.invokevirtual 212, 3) := by decide +kernel
theorem dX12_draught_219 : decode cX12_draught 219 = .ok (.iconst 1, 1) := by decide +kernel
theorem dX12_draught_220 : decode cX12_draught 220 = .ok (.ireturn, 1) := by decide +kernel
theorem dX12_nights_0 : decode cX12_nights 0 = .ok (.iload_n 1, 1) := by decide +kernel
theorem dX12_nights_1 : decode cX12_nights 1 = .ok (.invokestatic 92, 3) := by decide +kernel
theorem dX12_nights_4 : decode cX12_nights 4 = .ok (.ifCond .eq 40, 3) := by decide +kernel
theorem dX12_nights_7 : decode cX12_nights 7 = .ok (.iload_n 2, 1) := by decide +kernel
theorem dX12_nights_8 : decode cX12_nights 8 = .ok (.i2l, 1) := by decide +kernel
theorem dX12_nights_9 : decode cX12_nights 9 = .ok (.lconst 0, 1) := by decide +kernel
theorem dX12_nights_10 : decode cX12_nights 10 = .ok (.ldc2_w 216, 3) := by decide +kernel
theorem dX12_nights_13 : decode cX12_nights 13 = .ok (.invokestatic 61, 3) := by decide +kernel
theorem dX12_nights_16 : decode cX12_nights 16 = .ok (.ifCond .eq 28, 3) := by decide +kernel
theorem dX12_nights_19 : decode cX12_nights 19 = .ok (.iload_n 3, 1) := by decide +kernel
theorem dX12_nights_20 : decode cX12_nights 20 = .ok (.i2l, 1) := by decide +kernel
theorem dX12_nights_21 : decode cX12_nights 21 = .ok (.lconst 0, 1) := by decide +kernel
theorem dX12_nights_22 : decode cX12_nights 22 = .ok (.ldc2_w 218, 3) := by decide +kernel
theorem dX12_nights_25 : decode cX12_nights 25 = .ok (.invokestatic 61, 3) := by decide +kernel
theorem dX12_nights_28 : decode cX12_nights 28 = .ok (.ifCond .eq 16, 3) := by decide +kernel
theorem dX12_nights_31 : decode cX12_nights 31 = .ok (.iload 4, 2) := by decide +kernel
theorem dX12_nights_33 : decode cX12_nights 33 = .ok (.i2l, 1) := by decide +kernel
theorem dX12_nights_34 : decode cX12_nights 34 = .ok (.lconst 0, 1) := by decide +kernel
theorem dX12_nights_35 : decode cX12_nights 35 = .ok (.ldc2_w 220, 3) := by decide +kernel
theorem dX12_nights_38 : decode cX12_nights 38 = .ok (.invokestatic 61, 3) := by decide +kernel
theorem dX12_nights_41 : decode cX12_nights 41 = .ok (.ifCond .ne 10, 3) := by decide +kernel
theorem dX12_nights_44 : decode cX12_nights 44 = .ok (.aload_n 0, 1) := by decide +kernel
theorem dX12_nights_45 : decode cX12_nights 45 = .ok (.bipush (-2), 2) := by decide +kernel
theorem dX12_nights_47 : decode cX12_nights 47 = .ok (.invokevirtual 75, 3) := by decide +kernel
theorem dX12_nights_50 : decode cX12_nights 50 = .ok (.ireturn, 1) := by decide +kernel
theorem dX12_nights_51 : decode cX12_nights 51 = .ok (.iload_n 2, 1) := by decide +kernel
theorem dX12_nights_52 : decode cX12_nights 52 = .ok (.i2l, 1) := by decide +kernel
theorem dX12_nights_53 : decode cX12_nights 53 = .ok (.lstore 5, 2) := by decide +kernel
theorem dX12_nights_55 : decode cX12_nights 55 = .ok (.iconst 0, 1) := by decide +kernel
theorem dX12_nights_56 : decode cX12_nights 56 = .ok (.istore 7, 2) := by decide +kernel
theorem dX12_nights_58 : decode cX12_nights 58 = .ok (.aload_n 0, 1) := by decide +kernel
theorem dX12_nights_59 : decode cX12_nights 59 = .ok (.invokevirtual 154, 3) := by decide +kernel
theorem dX12_nights_62 : decode cX12_nights 62 = .ok (.iconst 0, 1) := by decide +kernel
theorem dX12_nights_63 : decode cX12_nights 63 = .ok (.istore 8, 2) := by decide +kernel
theorem dX12_nights_65 : decode cX12_nights 65 = .ok (.iload 8, 2) := by decide +kernel
theorem dX12_nights_67 : decode cX12_nights 67 = .ok (.iload_n 3, 1) := by decide +kernel
theorem dX12_nights_68 : decode cX12_nights 68 = .ok (.if_icmp .ge 93, 3) := by decide +kernel
theorem dX12_nights_71 : decode cX12_nights 71 = .ok (.aload_n 0, 1) := by decide +kernel
theorem dX12_nights_72 : decode cX12_nights 72 = .ok (.iconst 0, 1) := by decide +kernel
theorem dX12_nights_73 : decode cX12_nights 73 = .ok (.putfield 126, 3) := by decide +kernel
theorem dX12_nights_76 : decode cX12_nights 76 = .ok (.iconst 0, 1) := by decide +kernel
theorem dX12_nights_77 : decode cX12_nights 77 = .ok (.istore 9, 2) := by decide +kernel
theorem dX12_nights_79 : decode cX12_nights 79 = .ok (.iload 9, 2) := by decide +kernel
theorem dX12_nights_81 : decode cX12_nights 81 = .ok (.aload_n 0, 1) := by decide +kernel
theorem dX12_nights_82 : decode cX12_nights 82 = .ok (.invokevirtual 57, 3) := by decide +kernel
theorem dX12_nights_85 : decode cX12_nights 85 = .ok (.if_icmp .ge 59, 3) := by decide +kernel
theorem dX12_nights_88 : decode cX12_nights 88 = .ok (.lload 5, 2) := by decide +kernel
theorem dX12_nights_90 : decode cX12_nights 90 = .ok (.ldc2_w 222, 3) := by decide +kernel
theorem dX12_nights_93 : decode cX12_nights 93 = .ok (.lmul, 1) := by decide +kernel
theorem dX12_nights_94 : decode cX12_nights 94 = .ok (.ldc2_w 224, 3) := by decide +kernel
theorem dX12_nights_97 : decode cX12_nights 97 = .ok (.ladd, 1) := by decide +kernel
theorem dX12_nights_98 : decode cX12_nights 98 = .ok (.ldc2_w 226, 3) := by decide +kernel
theorem dX12_nights_101 : decode cX12_nights 101 = .ok (.lrem, 1) := by decide +kernel
theorem dX12_nights_102 : decode cX12_nights 102 = .ok (.lstore 5, 2) := by decide +kernel
theorem dX12_nights_104 : decode cX12_nights 104 = .ok (.aload_n 0, 1) := by decide +kernel
theorem dX12_nights_105 : decode cX12_nights 105 = .ok (.dup, 1) := by decide +kernel
theorem dX12_nights_106 : decode cX12_nights 106 = .ok (.getfield 126, 3) := by decide +kernel
theorem dX12_nights_109 : decode cX12_nights 109 = .ok (.lload 5, 2) := by decide +kernel
theorem dX12_nights_111 : decode cX12_nights 111 = .ok (.ldc2_w 228, 3) := by decide +kernel
theorem dX12_nights_114 : decode cX12_nights 114 = .ok (.ldiv, 1) := by decide +kernel
theorem dX12_nights_115 : decode cX12_nights 115 = .ok (.ldc2_w 220, 3) := by decide +kernel
theorem dX12_nights_118 : decode cX12_nights 118 = .ok (.lrem, 1) := by decide +kernel
theorem dX12_nights_119 : decode cX12_nights 119 = .ok (.iload 4, 2) := by decide +kernel
theorem dX12_nights_121 : decode cX12_nights 121 = .ok (.i2l, 1) := by decide +kernel
theorem dX12_nights_122 : decode cX12_nights 122 = .ok (.lcmp, 1) := by decide +kernel
theorem dX12_nights_123 : decode cX12_nights 123 = .ok (.ifCond .ge 10, 3) := by decide +kernel
theorem dX12_nights_126 : decode cX12_nights 126 = .ok (.iconst 1, 1) := by decide +kernel
theorem dX12_nights_127 : decode cX12_nights 127 = .ok (.iload 9, 2) := by decide +kernel
theorem dX12_nights_129 : decode cX12_nights 129 = .ok (.ishl, 1) := by decide +kernel
theorem dX12_nights_130 : decode cX12_nights 130 = .ok (.goto 4, 3) := by decide +kernel
theorem dX12_nights_133 : decode cX12_nights 133 = .ok (.iconst 0, 1) := by decide +kernel
theorem dX12_nights_134 : decode cX12_nights 134 = .ok (.ior, 1) := by decide +kernel
theorem dX12_nights_135 : decode cX12_nights 135 = .ok (.putfield 126, 3) := by decide +kernel
theorem dX12_nights_138 : decode cX12_nights 138 = .ok (.iinc 9 1, 3) := by decide +kernel
theorem dX12_nights_141 : decode cX12_nights 141 = .ok (.goto (-62), 3) := by decide +kernel
theorem dX12_nights_144 : decode cX12_nights 144 = .ok (.iload 7, 2) := by decide +kernel
theorem dX12_nights_146 : decode cX12_nights 146 = .ok (.aload_n 0, 1) := by decide +kernel
theorem dX12_nights_147 : decode cX12_nights 147 = .ok (.iload_n 1, 1) := by decide +kernel
theorem dX12_nights_148 : decode cX12_nights 148 = .ok (.iconst 0, 1) := by decide +kernel
theorem dX12_nights_149 : decode cX12_nights 149 = .ok (.invokevirtual 172, 3) := by decide +kernel
theorem dX12_nights_152 : decode cX12_nights 152 = .ok (.iadd, 1) := by decide +kernel
theorem dX12_nights_153 : decode cX12_nights 153 = .ok (.istore 7, 2) := by decide +kernel
theorem dX12_nights_155 : decode cX12_nights 155 = .ok (.iinc 8 1, 3) := by decide +kernel
theorem dX12_nights_158 : decode cX12_nights 158 = .ok (.goto (-93), 3) := by decide +kernel
theorem dX12_nights_161 : decode cX12_nights 161 = .ok (.iload 7, 2) := by decide +kernel
theorem dX12_nights_163 : decode cX12_nights 163 = .ok (.ireturn, 1) := by decide +kernel
theorem dX12_type_0 : decode cX12_type 0 = .ok (.iload_n 1, 1) := by decide +kernel
theorem dX12_type_1 : decode cX12_type 1 = .ok (.i2l, 1) := by decide +kernel
theorem dX12_type_2 : decode cX12_type 2 = .ok (.lconst 0, 1) := by decide +kernel
theorem dX12_type_3 : decode cX12_type 3 = .ok (.ldc2_w 230, 3) := by decide +kernel
theorem dX12_type_6 : decode cX12_type 6 = .ok (.invokestatic 61, 3) := by decide +kernel
theorem dX12_type_9 : decode cX12_type 9 = .ok (.ifCond .ne 10, 3) := by decide +kernel
theorem dX12_type_12 : decode cX12_type 12 = .ok (.aload_n 0, 1) := by decide +kernel
theorem dX12_type_13 : decode cX12_type 13 = .ok (.bipush (-2), 2) := by decide +kernel
theorem dX12_type_15 : decode cX12_type 15 = .ok (.invokevirtual 75, 3) := by decide +kernel
theorem dX12_type_18 : decode cX12_type 18 = .ok (.ireturn, 1) := by decide +kernel
theorem dX12_type_19 : decode cX12_type 19 = .ok (.aload_n 0, 1) := by decide +kernel
theorem dX12_type_20 : decode cX12_type 20 = .ok (.getfield 232, 3) := by decide +kernel
theorem dX12_type_23 : decode cX12_type 23 = .ok (.sipush 150, 3) := by decide +kernel
theorem dX12_type_26 : decode cX12_type 26 = .ok (.if_icmp .ne 8, 3) := by decide +kernel
theorem dX12_type_29 : decode cX12_type 29 = .ok (.aload_n 0, 1) := by decide +kernel
theorem dX12_type_30 : decode cX12_type 30 = .ok (.invokevirtual 97, 3) := by decide +kernel
theorem dX12_type_33 : decode cX12_type 33 = .ok (.ireturn, 1) := by decide +kernel
theorem dX12_type_34 : decode cX12_type 34 = .ok (.aload_n 0, 1) := by decide +kernel
theorem dX12_type_35 : decode cX12_type 35 = .ok (.getfield 48, 3) := by decide +kernel
theorem dX12_type_38 : decode cX12_type 38 = .ok (.aload_n 0, 1) := by decide +kernel
theorem dX12_type_39 : decode cX12_type 39 = .ok (.getfield 232, 3) := by decide +kernel
theorem dX12_type_42 : decode cX12_type 42 = .ok (.iload_n 1, 1) := by decide +kernel
theorem dX12_type_43 : decode cX12_type 43 = .ok (.iastore, 1) := by decide +kernel
theorem dX12_type_44 : decode cX12_type 44 = .ok (.aload_n 0, 1) := by decide +kernel
theorem dX12_type_45 : decode cX12_type 45 = .ok (.dup, 1) := by decide +kernel
theorem dX12_type_46 : decode cX12_type 46 = .ok (.getfield 232, 3) := by decide +kernel
theorem dX12_type_49 : decode cX12_type 49 = .ok (.iconst 1, 1) := by decide +kernel
theorem dX12_type_50 : decode cX12_type 50 = .ok (.iadd, 1) := by decide +kernel
theorem dX12_type_51 : decode cX12_type 51 = .ok (.putfield 232, 3) := by decide +kernel
theorem dX12_type_54 : decode cX12_type 54 = .ok (.aload_n 0, 1) := by decide +kernel
theorem dX12_type_55 : decode cX12_type 55 = .ok (.getfield 232, 3) := by decide +kernel
theorem dX12_type_58 : decode cX12_type 58 = .ok (.ireturn, 1) := by decide +kernel
theorem dX12_clear_0 : decode cX12_clear 0 = .ok (.aload_n 0, 1) := by decide +kernel
theorem dX12_clear_1 : decode cX12_clear 1 = .ok (.getfield 232, 3) := by decide +kernel
theorem dX12_clear_4 : decode cX12_clear 4 = .ok (.istore_n 1, 1) := by decide +kernel
theorem dX12_clear_5 : decode cX12_clear 5 = .ok (.aload_n 0, 1) := by decide +kernel
theorem dX12_clear_6 : decode cX12_clear 6 = .ok (.iconst 0, 1) := by decide +kernel
theorem dX12_clear_7 : decode cX12_clear 7 = .ok (.putfield 232, 3) := by decide +kernel
theorem dX12_clear_10 : decode cX12_clear 10 = .ok (.iload_n 1, 1) := by decide +kernel
theorem dX12_clear_11 : decode cX12_clear 11 = .ok (.ireturn, 1) := by decide +kernel
theorem dX12_isSmall_0 : decode cX12_isSmall 0 = .ok (.iload_n 0, 1) := by decide +kernel
theorem dX12_isSmall_1 : decode cX12_isSmall 1 = .ok (.i2l, 1) := by decide +kernel
theorem dX12_isSmall_2 : decode cX12_isSmall 2 = .ok (.ldc2_w 235, 3) := by decide +kernel
theorem dX12_isSmall_5 : decode cX12_isSmall 5 = .ok (.ldc2_w 237, 3) := by decide +kernel
theorem dX12_isSmall_8 : decode cX12_isSmall 8 = .ok (.invokestatic 61, 3) := by decide +kernel
theorem dX12_isSmall_11 : decode cX12_isSmall 11 = .ok (.ireturn, 1) := by decide +kernel
theorem dX12_isFigure_0 : decode cX12_isFigure 0 = .ok (.iload_n 0, 1) := by decide +kernel
theorem dX12_isFigure_1 : decode cX12_isFigure 1 = .ok (.i2l, 1) := by decide +kernel
theorem dX12_isFigure_2 : decode cX12_isFigure 2 = .ok (.ldc2_w 239, 3) := by decide +kernel
theorem dX12_isFigure_5 : decode cX12_isFigure 5 = .ok (.ldc2_w 241, 3) := by decide +kernel
theorem dX12_isFigure_8 : decode cX12_isFigure 8 = .ok (.invokestatic 61, 3) := by decide +kernel
theorem dX12_isFigure_11 : decode cX12_isFigure 11 = .ok (.ireturn, 1) := by decide +kernel
theorem dX12_lookAt_0 : decode cX12_lookAt 0 = .ok (.aload_n 0, 1) := by decide +kernel
theorem dX12_lookAt_1 : decode cX12_lookAt 1 = .ok (.iload_n 1, 1) := by decide +kernel
theorem dX12_lookAt_2 : decode cX12_lookAt 2 = .ok (.putfield 243, 3) := by decide +kernel
theorem dX12_lookAt_5 : decode cX12_lookAt 5 = .ok (.aload_n 0, 1) := by decide +kernel
theorem dX12_lookAt_6 : decode cX12_lookAt 6 = .ok (.getfield 243, 3) := by decide +kernel
theorem dX12_lookAt_9 : decode cX12_lookAt 9 = .ok (.aload_n 0, 1) := by decide +kernel
theorem dX12_lookAt_10 : decode cX12_lookAt 10 = .ok (.getfield 232, 3) := by decide +kernel
theorem dX12_lookAt_13 : decode cX12_lookAt 13 = .ok (.if_icmp .ge 30, 3) := by decide +kernel
theorem dX12_lookAt_16 : decode cX12_lookAt 16 = .ok (.aload_n 0, 1) := by decide +kernel
theorem dX12_lookAt_17 : decode cX12_lookAt 17 = .ok (.getfield 48, 3) := by decide +kernel
theorem dX12_lookAt_20 : decode cX12_lookAt 20 = .ok (.aload_n 0, 1) := by decide +kernel
theorem dX12_lookAt_21 : decode cX12_lookAt 21 = .ok (.getfield 243, 3) := by decide +kernel
theorem dX12_lookAt_24 : decode cX12_lookAt 24 = .ok (.iaload, 1) := by decide +kernel
theorem dX12_lookAt_25 : decode cX12_lookAt 25 = .ok (.bipush 32, 2) := by decide +kernel
theorem dX12_lookAt_27 : decode cX12_lookAt 27 = .ok (.if_icmp .ne 16, 3) := by decide +kernel
theorem dX12_lookAt_30 : decode cX12_lookAt 30 = .ok (.aload_n 0, 1) := by decide +kernel
theorem dX12_lookAt_31 : decode cX12_lookAt 31 = .ok (.dup, 1) := by decide +kernel
theorem dX12_lookAt_32 : decode cX12_lookAt 32 = .ok (.getfield 243, 3) := by decide +kernel
theorem dX12_lookAt_35 : decode cX12_lookAt 35 = .ok (.iconst 1, 1) := by decide +kernel
theorem dX12_lookAt_36 : decode cX12_lookAt 36 = .ok (.iadd, 1) := by decide +kernel
theorem dX12_lookAt_37 : decode cX12_lookAt 37 = .ok (.putfield 243, 3) := by decide +kernel
theorem dX12_lookAt_40 : decode cX12_lookAt 40 = .ok (.goto (-35), 3) := by decide +kernel
theorem dX12_lookAt_43 : decode cX12_lookAt 43 = .ok (.aload_n 0, 1) := by decide +kernel
theorem dX12_lookAt_44 : decode cX12_lookAt 44 = .ok (.iconst 0, 1) := by decide +kernel
theorem dX12_lookAt_45 : decode cX12_lookAt 45 = .ok (.putfield 246, 3) := by decide +kernel
theorem dX12_lookAt_48 : decode cX12_lookAt 48 = .ok (.aload_n 0, 1) := by decide +kernel
theorem dX12_lookAt_49 : decode cX12_lookAt 49 = .ok (.iconst 0, 1) := by decide +kernel
theorem dX12_lookAt_50 : decode cX12_lookAt 50 = .ok (.putfield 249, 3) := by decide +kernel
theorem dX12_lookAt_53 : decode cX12_lookAt 53 = .ok (.aload_n 0, 1) := by decide +kernel
theorem dX12_lookAt_54 : decode cX12_lookAt 54 = .ok (.iconst 0, 1) := by decide +kernel
theorem dX12_lookAt_55 : decode cX12_lookAt 55 = .ok (.putfield 252, 3) := by decide +kernel
theorem dX12_lookAt_58 : decode cX12_lookAt 58 = .ok (.aload_n 0, 1) := by decide +kernel
theorem dX12_lookAt_59 : decode cX12_lookAt 59 = .ok (.getfield 243, 3) := by decide +kernel
theorem dX12_lookAt_62 : decode cX12_lookAt 62 = .ok (.aload_n 0, 1) := by decide +kernel
theorem dX12_lookAt_63 : decode cX12_lookAt 63 = .ok (.getfield 232, 3) := by decide +kernel
theorem dX12_lookAt_66 : decode cX12_lookAt 66 = .ok (.if_icmp .ne 4, 3) := by decide +kernel
theorem dX12_lookAt_69 : decode cX12_lookAt 69 = .ok (.return_, 1) := by decide +kernel
theorem dX12_lookAt_70 : decode cX12_lookAt 70 = .ok (.aload_n 0, 1) := by decide +kernel
theorem dX12_lookAt_71 : decode cX12_lookAt 71 = .ok (.getfield 48, 3) := by decide +kernel
theorem dX12_lookAt_74 : decode cX12_lookAt 74 = .ok (.aload_n 0, 1) := by decide +kernel
theorem dX12_lookAt_75 : decode cX12_lookAt 75 = .ok (.getfield 243, 3) := by decide +kernel
theorem dX12_lookAt_78 : decode cX12_lookAt 78 = .ok (.iaload, 1) := by decide +kernel
theorem dX12_lookAt_79 : decode cX12_lookAt 79 = .ok (.istore_n 2, 1) := by decide +kernel
theorem dX12_lookAt_80 : decode cX12_lookAt 80 = .ok (.aload_n 0, 1) := by decide +kernel
theorem dX12_lookAt_81 : decode cX12_lookAt 81 = .ok (.iload_n 2, 1) := by decide +kernel
theorem dX12_lookAt_82 : decode cX12_lookAt 82 = .ok (.invokestatic 255, 3) := by decide +kernel
theorem dX12_lookAt_85 : decode cX12_lookAt 85 = .ok (.ifCond .eq 7, 3) := by decide +kernel
theorem dX12_lookAt_88 : decode cX12_lookAt 88 = .ok (.iconst 1, 1) := by decide +kernel
theorem dX12_lookAt_89 : decode cX12_lookAt 89 = .ok (.goto 25, 3) := by decide +kernel
theorem dX12_lookAt_92 : decode cX12_lookAt 92 = .ok (.iload_n 2, 1) := by decide +kernel
theorem dX12_lookAt_93 : decode cX12_lookAt 93 = .ok (.invokestatic 258, 3) := by decide +kernel
theorem dX12_lookAt_96 : decode cX12_lookAt 96 = .ok (.ifCond .eq 7, 3) := by decide +kernel
theorem dX12_lookAt_99 : decode cX12_lookAt 99 = .ok (.iconst 2, 1) := by decide +kernel
theorem dX12_lookAt_100 : decode cX12_lookAt 100 = .ok (.goto 14, 3) := by decide +kernel
theorem dX12_lookAt_103 : decode cX12_lookAt 103 = .ok (.iload_n 2, 1) := by decide +kernel
theorem dX12_lookAt_104 : decode cX12_lookAt 104 = .ok (.bipush 59, 2) := by decide +kernel
theorem dX12_lookAt_106 : decode cX12_lookAt 106 = .ok (.if_icmp .ne 7, 3) := by decide +kernel
theorem dX12_lookAt_109 : decode cX12_lookAt 109 = .ok (.iconst 3, 1) := by decide +kernel
theorem dX12_lookAt_110 : decode cX12_lookAt 110 = .ok (.goto 4, 3) := by decide +kernel
theorem dX12_lookAt_113 : decode cX12_lookAt 113 = .ok (.iconst 4, 1) := by decide +kernel
theorem dX12_lookAt_114 : decode cX12_lookAt 114 = .ok (.putfield 249, 3) := by decide +kernel
theorem dX12_lookAt_117 : decode cX12_lookAt 117 = .ok (.aload_n 0, 1) := by decide +kernel
theorem dX12_lookAt_118 : decode cX12_lookAt 118 = .ok (.iconst 1, 1) := by decide +kernel
theorem dX12_lookAt_119 : decode cX12_lookAt 119 = .ok (.putfield 246, 3) := by decide +kernel
theorem dX12_lookAt_122 : decode cX12_lookAt 122 = .ok (.aload_n 0, 1) := by decide +kernel
theorem dX12_lookAt_123 : decode cX12_lookAt 123 = .ok (.getfield 249, 3) := by decide +kernel
theorem dX12_lookAt_126 : decode cX12_lookAt 126 = .ok (.iconst 3, 1) := by decide +kernel
theorem dX12_lookAt_127 : decode cX12_lookAt 127 = .ok (.if_icmp .ge 7, 3) := by decide +kernel
theorem dX12_lookAt_130 : decode cX12_lookAt 130 = .ok (.iconst 1, 1) := by decide +kernel
theorem dX12_lookAt_131 : decode cX12_lookAt 131 = .ok (.goto 4, 3) := by decide +kernel
theorem dX12_lookAt_134 : decode cX12_lookAt 134 = .ok (.iconst 0, 1) := by decide +kernel
theorem dX12_lookAt_135 : decode cX12_lookAt 135 = .ok (.istore_n 3, 1) := by decide +kernel
theorem dX12_lookAt_136 : decode cX12_lookAt 136 = .ok (.iload_n 3, 1) := by decide +kernel
theorem dX12_lookAt_137 : decode cX12_lookAt 137 = .ok (.ifCond .eq 78, 3) := by decide +kernel
theorem dX12_lookAt_140 : decode cX12_lookAt 140 = .ok (.aload_n 0, 1) := by decide +kernel
theorem dX12_lookAt_141 : decode cX12_lookAt 141 = .ok (.getfield 243, 3) := by decide +kernel
theorem dX12_lookAt_144 : decode cX12_lookAt 144 = .ok (.aload_n 0, 1) := by decide +kernel
theorem dX12_lookAt_145 : decode cX12_lookAt 145 = .ok (.getfield 246, 3) := by decide +kernel
theorem dX12_lookAt_148 : decode cX12_lookAt 148 = .ok (.iadd, 1) := by decide +kernel
theorem dX12_lookAt_149 : decode cX12_lookAt 149 = .ok (.aload_n 0, 1) := by decide +kernel
theorem dX12_lookAt_150 : decode cX12_lookAt 150 = .ok (.getfield 232, 3) := by decide +kernel
theorem dX12_lookAt_153 : decode cX12_lookAt 153 = .ok (.if_icmp .ge 62, 3) := by decide +kernel
theorem dX12_lookAt_156 : decode cX12_lookAt 156 = .ok (.aload_n 0, 1) := by decide +kernel
theorem dX12_lookAt_157 : decode cX12_lookAt 157 = .ok (.getfield 48, 3) := by decide +kernel
theorem dX12_lookAt_160 : decode cX12_lookAt 160 = .ok (.aload_n 0, 1) := by decide +kernel
theorem dX12_lookAt_161 : decode cX12_lookAt 161 = .ok (.getfield 243, 3) := by decide +kernel
theorem dX12_lookAt_164 : decode cX12_lookAt 164 = .ok (.aload_n 0, 1) := by decide +kernel
theorem dX12_lookAt_165 : decode cX12_lookAt 165 = .ok (.getfield 246, 3) := by decide +kernel
theorem dX12_lookAt_168 : decode cX12_lookAt 168 = .ok (.iadd, 1) := by decide +kernel
theorem dX12_lookAt_169 : decode cX12_lookAt 169 = .ok (.iaload, 1) := by decide +kernel
theorem dX12_lookAt_170 : decode cX12_lookAt 170 = .ok (.istore 4, 2) := by decide +kernel
theorem dX12_lookAt_172 : decode cX12_lookAt 172 = .ok (.aload_n 0, 1) := by decide +kernel
theorem dX12_lookAt_173 : decode cX12_lookAt 173 = .ok (.getfield 249, 3) := by decide +kernel
theorem dX12_lookAt_176 : decode cX12_lookAt 176 = .ok (.iconst 1, 1) := by decide +kernel
theorem dX12_lookAt_177 : decode cX12_lookAt 177 = .ok (.if_icmp .ne 11, 3) := by decide +kernel
theorem dX12_lookAt_180 : decode cX12_lookAt 180 = .ok (.iload 4, 2) := by decide +kernel
theorem dX12_lookAt_182 : decode cX12_lookAt 182 = .ok (.invokestatic 255, 3) := by decide +kernel
theorem dX12_lookAt_185 : decode cX12_lookAt 185 = .ok (.goto 8, 3) := by decide +kernel
theorem dX12_lookAt_188 : decode cX12_lookAt 188 = .ok (.iload 4, 2) := by decide +kernel
theorem dX12_lookAt_190 : decode cX12_lookAt 190 = .ok (.invokestatic 258, 3) := by decide +kernel
theorem dX12_lookAt_193 : decode cX12_lookAt 193 = .ok (.istore_n 3, 1) := by decide +kernel
theorem dX12_lookAt_194 : decode cX12_lookAt 194 = .ok (.aload_n 0, 1) := by decide +kernel
theorem dX12_lookAt_195 : decode cX12_lookAt 195 = .ok (.dup, 1) := by decide +kernel
theorem dX12_lookAt_196 : decode cX12_lookAt 196 = .ok (.getfield 246, 3) := by decide +kernel
theorem dX12_lookAt_199 : decode cX12_lookAt 199 = .ok (.iload_n 3, 1) := by decide +kernel
theorem dX12_lookAt_200 : decode cX12_lookAt 200 = .ok (.ifCond .eq 7, 3) := by decide +kernel
theorem dX12_lookAt_203 : decode cX12_lookAt 203 = .ok (.iconst 1, 1) := by decide +kernel
theorem dX12_lookAt_204 : decode cX12_lookAt 204 = .ok (.goto 4, 3) := by decide +kernel
theorem dX12_lookAt_207 : decode cX12_lookAt 207 = .ok (.iconst 0, 1) := by decide +kernel
theorem dX12_lookAt_208 : decode cX12_lookAt 208 = .ok (.iadd, 1) := by decide +kernel
theorem dX12_lookAt_209 : decode cX12_lookAt 209 = .ok (.putfield 246, 3) := by decide +kernel
theorem dX12_lookAt_212 : decode cX12_lookAt 212 = .ok (.goto (-76), 3) := by decide +kernel
theorem dX12_lookAt_215 : decode cX12_lookAt 215 = .ok (.iconst 0, 1) := by decide +kernel
theorem dX12_lookAt_216 : decode cX12_lookAt 216 = .ok (.istore 4, 2) := by decide +kernel
theorem dX12_lookAt_218 : decode cX12_lookAt 218 = .ok (.iload 4, 2) := by decide +kernel
theorem dX12_lookAt_220 : decode cX12_lookAt 220 = .ok (.aload_n 0, 1) := by decide +kernel
theorem dX12_lookAt_221 : decode cX12_lookAt 221 = .ok (.getfield 246, 3) := by decide +kernel
theorem dX12_lookAt_224 : decode cX12_lookAt 224 = .ok (.if_icmp .ge 50, 3) := by decide +kernel
theorem dX12_lookAt_227 : decode cX12_lookAt 227 = .ok (.iload 4, 2) := by decide +kernel
theorem dX12_lookAt_229 : decode cX12_lookAt 229 = .ok (.iconst 2, 1) := by decide +kernel
theorem dX12_lookAt_230 : decode cX12_lookAt 230 = .ok (.if_icmp .ge 44, 3) := by decide +kernel
theorem dX12_lookAt_233 : decode cX12_lookAt 233 = .ok (.aload_n 0, 1) := by decide +kernel
theorem dX12_lookAt_234 : decode cX12_lookAt 234 = .ok (.getfield 249, 3) := by decide +kernel
theorem dX12_lookAt_237 : decode cX12_lookAt 237 = .ok (.iconst 2, 1) := by decide +kernel
theorem dX12_lookAt_238 : decode cX12_lookAt 238 = .ok (.if_icmp .ne 36, 3) := by decide +kernel
theorem dX12_lookAt_241 : decode cX12_lookAt 241 = .ok (.aload_n 0, 1) := by decide +kernel
theorem dX12_lookAt_242 : decode cX12_lookAt 242 = .ok (.bipush 10, 2) := by decide +kernel
theorem dX12_lookAt_244 : decode cX12_lookAt 244 = .ok (.aload_n 0, 1) := by decide +kernel
theorem dX12_lookAt_245 : decode cX12_lookAt 245 = .ok (.getfield 252, 3) := by decide +kernel
theorem dX12_lookAt_248 : decode cX12_lookAt 248 = .ok (.imul, 1) := by decide +kernel
theorem dX12_lookAt_249 : decode cX12_lookAt 249 = .ok (.aload_n 0, 1) := by decide +kernel
theorem dX12_lookAt_250 : decode cX12_lookAt 250 = .ok (.getfield 48, 3) := by decide +kernel
theorem dX12_lookAt_253 : decode cX12_lookAt 253 = .ok (.aload_n 0, 1) := by decide +kernel
theorem dX12_lookAt_254 : decode cX12_lookAt 254 = .ok (.getfield 243, 3) := by decide +kernel
theorem dX12_lookAt_257 : decode cX12_lookAt 257 = .ok (.iload 4, 2) := by decide +kernel
theorem dX12_lookAt_259 : decode cX12_lookAt 259 = .ok (.iadd, 1) := by decide +kernel
theorem dX12_lookAt_260 : decode cX12_lookAt 260 = .ok (.iaload, 1) := by decide +kernel
theorem dX12_lookAt_261 : decode cX12_lookAt 261 = .ok (.iadd, 1) := by decide +kernel
theorem dX12_lookAt_262 : decode cX12_lookAt 262 = .ok (.bipush 48, 2) := by decide +kernel
theorem dX12_lookAt_264 : decode cX12_lookAt 264 = .ok (.isub, 1) := by decide +kernel
theorem dX12_lookAt_265 : decode cX12_lookAt 265 = .ok (.putfield 252, 3) := by decide +kernel
theorem dX12_lookAt_268 : decode cX12_lookAt 268 = .ok (.iinc 4 1, 3) := by decide +kernel
theorem dX12_lookAt_271 : decode cX12_lookAt 271 = .ok (.goto (-53), 3) := by decide +kernel
theorem dX12_lookAt_274 : decode cX12_lookAt 274 = .ok (.aload_n 0, 1) := by decide +kernel
theorem dX12_lookAt_275 : decode cX12_lookAt 275 = .ok (.aload_n 0, 1) := by decide +kernel
theorem dX12_lookAt_276 : decode cX12_lookAt 276 = .ok (.getfield 249, 3) := by decide +kernel
theorem dX12_lookAt_279 : decode cX12_lookAt 279 = .ok (.iconst 2, 1) := by decide +kernel
theorem dX12_lookAt_280 : decode cX12_lookAt 280 = .ok (.if_icmp .ne 15, 3) := by decide +kernel
theorem dX12_lookAt_283 : decode cX12_lookAt 283 = .ok (.aload_n 0, 1) := by decide +kernel
theorem dX12_lookAt_284 : decode cX12_lookAt 284 = .ok (.getfield 246, 3) := by decide +kernel
theorem dX12_lookAt_287 : decode cX12_lookAt 287 = .ok (.iconst 2, 1) := by decide +kernel
theorem dX12_lookAt_288 : decode cX12_lookAt 288 = .ok (.if_icmp .le 7, 3) := by decide +kernel
theorem dX12_lookAt_291 : decode cX12_lookAt 291 = .ok (.iconst 4, 1) := by decide +kernel
theorem dX12_lookAt_292 : decode cX12_lookAt 292 = .ok (.goto 7, 3) := by decide +kernel
theorem dX12_lookAt_295 : decode cX12_lookAt 295 = .ok (.aload_n 0, 1) := by decide +kernel
theorem dX12_lookAt_296 : decode cX12_lookAt 296 = .ok (.getfield 249, 3) := by decide +kernel
theorem dX12_lookAt_299 : decode cX12_lookAt 299 = .ok (.putfield 249, 3) := by decide +kernel
theorem dX12_lookAt_302 : decode cX12_lookAt 302 = .ok (.return_, 1) := by decide +kernel
theorem dX12_goBehind_0 : decode cX12_goBehind 0 = .ok (.aload_n 0, 1) := by decide +kernel
theorem dX12_goBehind_1 : decode cX12_goBehind 1 = .ok (.aload_n 0, 1) := by decide +kernel
theorem dX12_goBehind_2 : decode cX12_goBehind 2 = .ok (.getfield 243, 3) := by decide +kernel
theorem dX12_goBehind_5 : decode cX12_goBehind 5 = .ok (.aload_n 0, 1) := by decide +kernel
theorem dX12_goBehind_6 : decode cX12_goBehind 6 = .ok (.getfield 246, 3) := by decide +kernel
theorem dX12_goBehind_9 : decode cX12_goBehind 9 = .ok (.iadd, 1) := by decide +kernel
theorem dX12_goBehind_10 : decode cX12_goBehind 10 = .ok (.invokevirtual 261, 3) := by decide +kernel
theorem dX12_goBehind_13 : decode cX12_goBehind 13 = .ok (.return_, 1) := by decide +kernel
