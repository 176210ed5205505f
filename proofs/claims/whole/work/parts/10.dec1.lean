theorem dX5_takeItem_0 : decode cX5_takeItem 0 = .ok (.aload_n 0, 1) := by decide +kernel
theorem dX5_takeItem_1 : decode cX5_takeItem 1 = .ok (.getfield 29, 3) := by decide +kernel
theorem dX5_takeItem_4 : decode cX5_takeItem 4 = .ok (.iconst 1, 1) := by decide +kernel
theorem dX5_takeItem_5 : decode cX5_takeItem 5 = .ok (.if_icmp .eq 5, 3) := by decide +kernel
theorem dX5_takeItem_8 : decode cX5_takeItem 8 = .ok (.iconst 0, 1) := by decide +kernel
theorem dX5_takeItem_9 : decode cX5_takeItem 9 = .ok (.ireturn, 1) := by decide +kernel
theorem dX5_takeItem_10 : decode cX5_takeItem 10 = .ok (.iload_n 1, 1) := by decide +kernel
theorem dX5_takeItem_11 : decode cX5_takeItem 11 = .ok (.ifCond .eq 25, 3) := by decide +kernel
theorem dX5_takeItem_14 : decode cX5_takeItem 14 = .ok (.aload_n 0, 1) := by decide +kernel
theorem dX5_takeItem_15 : decode cX5_takeItem 15 = .ok (.ldc 49, 2) := by decide +kernel
theorem dX5_takeItem_17 : decode cX5_takeItem 17 = .ok (.invokevirtual 51, 3) := by decide +kernel
theorem dX5_takeItem_20 : decode cX5_takeItem 20 = .ok (.ifCond .eq 14, 3) := by decide +kernel
theorem dX5_takeItem_23 : decode cX5_takeItem 23 = .ok (.aload_n 0, 1) := by decide +kernel
theorem dX5_takeItem_24 : decode cX5_takeItem 24 = .ok (.invokevirtual 55, 3) := by decide +kernel
theorem dX5_takeItem_27 : decode cX5_takeItem 27 = .ok (.ifCond .eq 7, 3) := by decide +kernel
theorem dX5_takeItem_30 : decode cX5_takeItem 30 = .ok (.iconst 1, 1) := by decide +kernel
theorem dX5_takeItem_31 : decode cX5_takeItem 31 = .ok (.goto 4, 3) := by decide +kernel
theorem dX5_takeItem_34 : decode cX5_takeItem 34 = .ok (.iconst 0, 1) := by decide +kernel
theorem dX5_takeItem_35 : decode cX5_takeItem 35 = .ok (.ireturn, 1) := by decide +kernel
theorem dX5_takeItem_36 : decode cX5_takeItem 36 = .ok (.aload_n 0, 1) := by decide +kernel
theorem dX5_takeItem_37 : decode cX5_takeItem 37 = .ok (.ldc 59, 2) := by decide +kernel
theorem dX5_takeItem_39 : decode cX5_takeItem 39 = .ok (.invokevirtual 51, 3) := by decide +kernel
theorem dX5_takeItem_42 : decode cX5_takeItem 42 = .ok (.ifCond .eq 8, 3) := by decide +kernel
theorem dX5_takeItem_45 : decode cX5_takeItem 45 = .ok (.aload_n 0, 1) := by decide +kernel
theorem dX5_takeItem_46 : decode cX5_takeItem 46 = .ok (.invokevirtual 61, 3) := by decide +kernel
theorem dX5_takeItem_49 : decode cX5_takeItem 49 = .ok (.ireturn, 1) := by decide +kernel
theorem dX5_takeItem_50 : decode cX5_takeItem 50 = .ok (.aload_n 0, 1) := by decide +kernel
theorem dX5_takeItem_51 : decode cX5_takeItem 51 = .ok (.ldc 64, 2) := by decide +kernel
theorem dX5_takeItem_53 : decode cX5_takeItem 53 = .ok (.invokevirtual 51, 3) := by decide +kernel
theorem dX5_takeItem_56 : decode cX5_takeItem 56 = .ok (.ifCond .eq 14, 3) := by decide +kernel
theorem dX5_takeItem_59 : decode cX5_takeItem 59 = .ok (.aload_n 0, 1) := by decide +kernel
theorem dX5_takeItem_60 : decode cX5_takeItem 60 = .ok (.invokevirtual 66, 3) := by decide +kernel
theorem dX5_takeItem_63 : decode cX5_takeItem 63 = .ok (.ifCond .eq 7, 3) := by decide +kernel
theorem dX5_takeItem_66 : decode cX5_takeItem 66 = .ok (.iconst 1, 1) := by decide +kernel
theorem dX5_takeItem_67 : decode cX5_takeItem 67 = .ok (.goto 4, 3) := by decide +kernel
theorem dX5_takeItem_70 : decode cX5_takeItem 70 = .ok (.iconst 0, 1) := by decide +kernel
theorem dX5_takeItem_71 : decode cX5_takeItem 71 = .ok (.ireturn, 1) := by decide +kernel
theorem dX5_takeFog_0 : decode cX5_takeFog 0 = .ok (.aload_n 0, 1) := by decide +kernel
theorem dX5_takeFog_1 : decode cX5_takeFog 1 = .ok (.iconst 0, 1) := by decide +kernel
theorem dX5_takeFog_2 : decode cX5_takeFog 2 = .ok (.bipush 9, 2) := by decide +kernel
theorem dX5_takeFog_4 : decode cX5_takeFog 4 = .ok (.invokevirtual 69, 3) := by decide +kernel
theorem dX5_takeFog_7 : decode cX5_takeFog 7 = .ok (.ifCond .ne 5, 3) := by decide +kernel
theorem dX5_takeFog_10 : decode cX5_takeFog 10 = .ok (.iconst 0, 1) := by decide +kernel
theorem dX5_takeFog_11 : decode cX5_takeFog 11 = .ok (.ireturn, 1) := by decide +kernel
theorem dX5_takeFog_12 : decode cX5_takeFog 12 = .ok (.aload_n 0, 1) := by decide +kernel
theorem dX5_takeFog_13 : decode cX5_takeFog 13 = .ok (.getfield 12, 3) := by decide +kernel
theorem dX5_takeFog_16 : decode cX5_takeFog 16 = .ok (.aload_n 0, 1) := by decide +kernel
theorem dX5_takeFog_17 : decode cX5_takeFog 17 = .ok (.getfield 35, 3) := by decide +kernel
theorem dX5_takeFog_20 : decode cX5_takeFog 20 = .ok (.putfield 73, 3) := by decide +kernel
theorem dX5_takeFog_23 : decode cX5_takeFog 23 = .ok (.aload_n 0, 1) := by decide +kernel
theorem dX5_takeFog_24 : decode cX5_takeFog 24 = .ok (.invokevirtual 76, 3) := by decide +kernel
theorem dX5_takeFog_27 : decode cX5_takeFog 27 = .ok (.ireturn, 1) := by decide +kernel
theorem dX5_takeCandle_0 : decode cX5_takeCandle 0 = .ok (.aload_n 0, 1) := by decide +kernel
theorem dX5_takeCandle_1 : decode cX5_takeCandle 1 = .ok (.getfield 12, 3) := by decide +kernel
theorem dX5_takeCandle_4 : decode cX5_takeCandle 4 = .ok (.getfield 79, 3) := by decide +kernel
theorem dX5_takeCandle_7 : decode cX5_takeCandle 7 = .ok (.bipush 7, 2) := by decide +kernel
theorem dX5_takeCandle_9 : decode cX5_takeCandle 9 = .ok (.if_icmp .ge 12, 3) := by decide +kernel
theorem dX5_takeCandle_12 : decode cX5_takeCandle 12 = .ok (.aload_n 0, 1) := by decide +kernel
theorem dX5_takeCandle_13 : decode cX5_takeCandle 13 = .ok (.iconst 0, 1) := by decide +kernel
theorem dX5_takeCandle_14 : decode cX5_takeCandle 14 = .ok (.iconst 5, 1) := by decide +kernel
theorem dX5_takeCandle_15 : decode cX5_takeCandle 15 = .ok (.invokevirtual 69, 3) := by decide +kernel
theorem dX5_takeCandle_18 : decode cX5_takeCandle 18 = .ok (.ifCond .ne 5, 3) := by decide +kernel
theorem dX5_takeCandle_21 : decode cX5_takeCandle 21 = .ok (.iconst 0, 1) := by decide +kernel
theorem dX5_takeCandle_22 : decode cX5_takeCandle 22 = .ok (.ireturn, 1) := by decide +kernel
theorem dX5_takeCandle_23 : decode cX5_takeCandle 23 = .ok (.aload_n 0, 1) := by decide +kernel
theorem dX5_takeCandle_24 : decode cX5_takeCandle 24 = .ok (.getfield 35, 3) := by decide +kernel
theorem dX5_takeCandle_27 : decode cX5_takeCandle 27 = .ok (.istore_n 1, 1) := by decide +kernel
theorem dX5_takeCandle_28 : decode cX5_takeCandle 28 = .ok (.aload_n 0, 1) := by decide +kernel
theorem dX5_takeCandle_29 : decode cX5_takeCandle 29 = .ok (.iconst 0, 1) := by decide +kernel
theorem dX5_takeCandle_30 : decode cX5_takeCandle 30 = .ok (.bipush 63, 2) := by decide +kernel
theorem dX5_takeCandle_32 : decode cX5_takeCandle 32 = .ok (.invokevirtual 69, 3) := by decide +kernel
theorem dX5_takeCandle_35 : decode cX5_takeCandle 35 = .ok (.ifCond .ne 5, 3) := by decide +kernel
theorem dX5_takeCandle_38 : decode cX5_takeCandle 38 = .ok (.iconst 0, 1) := by decide +kernel
theorem dX5_takeCandle_39 : decode cX5_takeCandle 39 = .ok (.ireturn, 1) := by decide +kernel
theorem dX5_takeCandle_40 : decode cX5_takeCandle 40 = .ok (.aload_n 0, 1) := by decide +kernel
theorem dX5_takeCandle_41 : decode cX5_takeCandle 41 = .ok (.getfield 35, 3) := by decide +kernel
theorem dX5_takeCandle_44 : decode cX5_takeCandle 44 = .ok (.istore_n 2, 1) := by decide +kernel
theorem dX5_takeCandle_45 : decode cX5_takeCandle 45 = .ok (.aload_n 0, 1) := by decide +kernel
theorem dX5_takeCandle_46 : decode cX5_takeCandle 46 = .ok (.iconst 1, 1) := by decide +kernel
theorem dX5_takeCandle_47 : decode cX5_takeCandle 47 = .ok (.bipush 20, 2) := by decide +kernel
theorem dX5_takeCandle_49 : decode cX5_takeCandle 49 = .ok (.invokevirtual 69, 3) := by decide +kernel
theorem dX5_takeCandle_52 : decode cX5_takeCandle 52 = .ok (.ifCond .ne 5, 3) := by decide +kernel
theorem dX5_takeCandle_55 : decode cX5_takeCandle 55 = .ok (.iconst 0, 1) := by decide +kernel
theorem dX5_takeCandle_56 : decode cX5_takeCandle 56 = .ok (.ireturn, 1) := by decide +kernel
theorem dX5_takeCandle_57 : decode cX5_takeCandle 57 = .ok (.aload_n 0, 1) := by decide +kernel
theorem dX5_takeCandle_58 : decode cX5_takeCandle 58 = .ok (.getfield 35, 3) := by decide +kernel
theorem dX5_takeCandle_61 : decode cX5_takeCandle 61 = .ok (.istore_n 3, 1) := by decide +kernel
theorem dX5_takeCandle_62 : decode cX5_takeCandle 62 = .ok (.aload_n 0, 1) := by decide +kernel
theorem dX5_takeCandle_63 : decode cX5_takeCandle 63 = .ok (.iconst 0, 1) := by decide +kernel
theorem dX5_takeCandle_64 : decode cX5_takeCandle 64 = .ok (.iconst 3, 1) := by decide +kernel
theorem dX5_takeCandle_65 : decode cX5_takeCandle 65 = .ok (.invokevirtual 69, 3) := by decide +kernel
theorem dX5_takeCandle_68 : decode cX5_takeCandle 68 = .ok (.ifCond .ne 5, 3) := by decide +kernel
theorem dX5_takeCandle_71 : decode cX5_takeCandle 71 = .ok (.iconst 0, 1) := by decide +kernel
theorem dX5_takeCandle_72 : decode cX5_takeCandle 72 = .ok (.ireturn, 1) := by decide +kernel
theorem dX5_takeCandle_73 : decode cX5_takeCandle 73 = .ok (.aload_n 0, 1) := by decide +kernel
theorem dX5_takeCandle_74 : decode cX5_takeCandle 74 = .ok (.getfield 35, 3) := by decide +kernel
theorem dX5_takeCandle_77 : decode cX5_takeCandle 77 = .ok (.istore 4, 2) := by decide +kernel
theorem dX5_takeCandle_79 : decode cX5_takeCandle 79 = .ok (.aload_n 0, 1) := by decide +kernel
theorem dX5_takeCandle_80 : decode cX5_takeCandle 80 = .ok (.iconst 0, 1) := by decide +kernel
theorem dX5_takeCandle_81 : decode cX5_takeCandle 81 = .ok (.bipush 12, 2) := by decide +kernel
theorem dX5_takeCandle_83 : decode cX5_takeCandle 83 = .ok (.invokevirtual 69, 3) := by decide +kernel
theorem dX5_takeCandle_86 : decode cX5_takeCandle 86 = .ok (.ifCond .ne 5, 3) := by decide +kernel
theorem dX5_takeCandle_89 : decode cX5_takeCandle 89 = .ok (.iconst 0, 1) := by decide +kernel
theorem dX5_takeCandle_90 : decode cX5_takeCandle 90 = .ok (.ireturn, 1) := by decide +kernel
theorem dX5_takeCandle_91 : decode cX5_takeCandle 91 = .ok (.aload_n 0, 1) := by decide +kernel
theorem dX5_takeCandle_92 : decode cX5_takeCandle 92 = .ok (.getfield 12, 3) := by decide +kernel
theorem dX5_takeCandle_95 : decode cX5_takeCandle 95 = .ok (.iload_n 1, 1) := by decide +kernel
theorem dX5_takeCandle_96 : decode cX5_takeCandle 96 = .ok (.iload_n 2, 1) := by decide +kernel
theorem dX5_takeCandle_97 : decode cX5_takeCandle 97 = .ok (.iload_n 3, 1) := by decide +kernel
theorem dX5_takeCandle_98 : decode cX5_takeCandle 98 = .ok (.iload 4, 2) := by decide +kernel
theorem dX5_takeCandle_100 : decode cX5_takeCandle 100 = .ok (.aload_n 0, 1) := by decide +kernel
theorem dX5_takeCandle_101 : decode cX5_takeCandle 101 = .ok (.getfield 35, 3) := by decide +kernel
theorem dX5_takeCandle_104 : decode cX5_takeCandle 104 = .ok (.invokevirtual 82, 3) := by decide +kernel
theorem dX5_takeCandle_107 : decode cX5_takeCandle 107 = .ok (.pop, 1) := by decide +kernel
theorem dX5_takeCandle_108 : decode cX5_takeCandle 108 = .ok (.aload_n 0, 1) := by decide +kernel
theorem dX5_takeCandle_109 : decode cX5_takeCandle 109 = .ok (.invokevirtual 76, 3) := by decide +kernel
theorem dX5_takeCandle_112 : decode cX5_takeCandle 112 = .ok (.ireturn, 1) := by decide +kernel
theorem dX5_takeOut_0 : decode cX5_takeOut 0 = .ok (.aload_n 0, 1) := by decide +kernel
theorem dX5_takeOut_1 : decode cX5_takeOut 1 = .ok (.iconst 0, 1) := by decide +kernel
theorem dX5_takeOut_2 : decode cX5_takeOut 2 = .ok (.aload_n 0, 1) := by decide +kernel
theorem dX5_takeOut_3 : decode cX5_takeOut 3 = .ok (.getfield 12, 3) := by decide +kernel
theorem dX5_takeOut_6 : decode cX5_takeOut 6 = .ok (.getfield 79, 3) := by decide +kernel
theorem dX5_takeOut_9 : decode cX5_takeOut 9 = .ok (.iconst 1, 1) := by decide +kernel
theorem dX5_takeOut_10 : decode cX5_takeOut 10 = .ok (.isub, 1) := by decide +kernel
theorem dX5_takeOut_11 : decode cX5_takeOut 11 = .ok (.invokevirtual 69, 3) := by decide +kernel
theorem dX5_takeOut_14 : decode cX5_takeOut 14 = .ok (.ifCond .ne 5, 3) := by decide +kernel
theorem dX5_takeOut_17 : decode cX5_takeOut 17 = .ok (.iconst 0, 1) := by decide +kernel
theorem dX5_takeOut_18 : decode cX5_takeOut 18 = .ok (.ireturn, 1) := by decide +kernel
theorem dX5_takeOut_19 : decode cX5_takeOut 19 = .ok (.aload_n 0, 1) := by decide +kernel
theorem dX5_takeOut_20 : decode cX5_takeOut 20 = .ok (.getfield 12, 3) := by decide +kernel
theorem dX5_takeOut_23 : decode cX5_takeOut 23 = .ok (.aload_n 0, 1) := by decide +kernel
theorem dX5_takeOut_24 : decode cX5_takeOut 24 = .ok (.getfield 12, 3) := by decide +kernel
theorem dX5_takeOut_27 : decode cX5_takeOut 27 = .ok (.getfield 86, 3) := by decide +kernel
theorem dX5_takeOut_30 : decode cX5_takeOut 30 = .ok (.iconst 1, 1) := by decide +kernel
theorem dX5_takeOut_31 : decode cX5_takeOut 31 = .ok (.aload_n 0, 1) := by decide +kernel
theorem dX5_takeOut_32 : decode cX5_takeOut 32 = .ok (.getfield 35, 3) := by decide +kernel
theorem dX5_takeOut_35 : decode cX5_takeOut 35 = .ok (.ishl, 1) := by decide +kernel
theorem dX5_takeOut_36 : decode cX5_takeOut 36 = .ok (.iconst (-1), 1) := by decide +kernel
theorem dX5_takeOut_37 : decode cX5_takeOut 37 = .ok (.ixor, 1) := by decide +kernel
theorem dX5_takeOut_38 : decode cX5_takeOut 38 = .ok (.iand, 1) := by decide +kernel
theorem dX5_takeOut_39 : decode cX5_takeOut 39 = .ok (.putfield 86, 3) := by decide +kernel
theorem dX5_takeOut_42 : decode cX5_takeOut 42 = .ok (.aload_n 0, 1) := by decide +kernel
theorem dX5_takeOut_43 : decode cX5_takeOut 43 = .ok (.invokevirtual 76, 3) := by decide +kernel
theorem dX5_takeOut_46 : decode cX5_takeOut 46 = .ok (.ireturn, 1) := by decide +kernel
theorem dX5_takeNumber_0 : decode cX5_takeNumber 0 = .ok (.aload_n 0, 1) := by decide +kernel
theorem dX5_takeNumber_1 : decode cX5_takeNumber 1 = .ok (.invokevirtual 42, 3) := by decide +kernel
theorem dX5_takeNumber_4 : decode cX5_takeNumber 4 = .ok (.aload_n 0, 1) := by decide +kernel
theorem dX5_takeNumber_5 : decode cX5_takeNumber 5 = .ok (.getfield 29, 3) := by decide +kernel
theorem dX5_takeNumber_8 : decode cX5_takeNumber 8 = .ok (.iconst 2, 1) := by decide +kernel
theorem dX5_takeNumber_9 : decode cX5_takeNumber 9 = .ok (.if_icmp .ne 19, 3) := by decide +kernel
theorem dX5_takeNumber_12 : decode cX5_takeNumber 12 = .ok (.aload_n 0, 1) := by decide +kernel
theorem dX5_takeNumber_13 : decode cX5_takeNumber 13 = .ok (.getfield 35, 3) := by decide +kernel
theorem dX5_takeNumber_16 : decode cX5_takeNumber 16 = .ok (.iload_n 1, 1) := by decide +kernel
theorem dX5_takeNumber_17 : decode cX5_takeNumber 17 = .ok (.iload_n 2, 1) := by decide +kernel
theorem dX5_takeNumber_18 : decode cX5_takeNumber 18 = .ok (.invokestatic 89, 3) := by decide +kernel
theorem dX5_takeNumber_21 : decode cX5_takeNumber 21 = .ok (.ifCond .eq 7, 3) := by decide +kernel
theorem dX5_takeNumber_24 : decode cX5_takeNumber 24 = .ok (.iconst 1, 1) := by decide +kernel
theorem dX5_takeNumber_25 : decode cX5_takeNumber 25 = .ok (.goto 4, 3) := by decide +kernel
theorem dX5_takeNumber_28 : decode cX5_takeNumber 28 = .ok (.iconst 0, 1) := by decide +kernel
theorem dX5_takeNumber_29 : decode cX5_takeNumber 29 = .ok (.ireturn, 1) := by decide +kernel
theorem dX5_takeStop_0 : decode cX5_takeStop 0 = .ok (.aload_n 0, 1) := by decide +kernel
theorem dX5_takeStop_1 : decode cX5_takeStop 1 = .ok (.invokevirtual 42, 3) := by decide +kernel
theorem dX5_takeStop_4 : decode cX5_takeStop 4 = .ok (.aload_n 0, 1) := by decide +kernel
theorem dX5_takeStop_5 : decode cX5_takeStop 5 = .ok (.getfield 29, 3) := by decide +kernel
theorem dX5_takeStop_8 : decode cX5_takeStop 8 = .ok (.iconst 3, 1) := by decide +kernel
theorem dX5_takeStop_9 : decode cX5_takeStop 9 = .ok (.if_icmp .ne 7, 3) := by decide +kernel
theorem dX5_takeStop_12 : decode cX5_takeStop 12 = .ok (.iconst 1, 1) := by decide +kernel
theorem dX5_takeStop_13 : decode cX5_takeStop 13 = .ok (.goto 4, 3) := by decide +kernel
theorem dX5_takeStop_16 : decode cX5_takeStop 16 = .ok (.iconst 0, 1) := by decide +kernel
theorem dX5_takeStop_17 : decode cX5_takeStop 17 = .ok (.ireturn, 1) := by decide +kernel
theorem dX5_advance_0 : decode cX5_advance 0 = .ok (.aload_n 0, 1) := by decide +kernel
theorem dX5_advance_1 : decode cX5_advance 1 = .ok (.getfield 26, 3) := by decide +kernel
theorem dX5_advance_4 : decode cX5_advance 4 = .ok (.aload_n 0, 1) := by decide +kernel
theorem dX5_advance_5 : decode cX5_advance 5 = .ok (.getfield 18, 3) := by decide +kernel
theorem dX5_advance_8 : decode cX5_advance 8 = .ok (.if_icmp .ge 30, 3) := by decide +kernel
theorem dX5_advance_11 : decode cX5_advance 11 = .ok (.aload_n 0, 1) := by decide +kernel
theorem dX5_advance_12 : decode cX5_advance 12 = .ok (.getfield 22, 3) := by decide +kernel
theorem dX5_advance_15 : decode cX5_advance 15 = .ok (.aload_n 0, 1) := by decide +kernel
theorem dX5_advance_16 : decode cX5_advance 16 = .ok (.getfield 26, 3) := by decide +kernel
theorem dX5_advance_19 : decode cX5_advance 19 = .ok (.baload, 1) := by decide +kernel
theorem dX5_advance_20 : decode cX5_advance 20 = .ok (.bipush 32, 2) := by decide +kernel
theorem dX5_advance_22 : decode cX5_advance 22 = .ok (.if_icmp .ne 16, 3) := by decide +kernel
theorem dX5_advance_25 : decode cX5_advance 25 = .ok (.aload_n 0, 1) := by decide +kernel
theorem dX5_advance_26 : decode cX5_advance 26 = .ok (.dup, 1) := by decide +kernel
theorem dX5_advance_27 : decode cX5_advance 27 = .ok (.getfield 26, 3) := by decide +kernel
theorem dX5_advance_30 : decode cX5_advance 30 = .ok (.iconst 1, 1) := by decide +kernel
theorem dX5_advance_31 : decode cX5_advance 31 = .ok (.iadd, 1) := by decide +kernel
theorem dX5_advance_32 : decode cX5_advance 32 = .ok (.putfield 26, 3) := by decide +kernel
theorem dX5_advance_35 : decode cX5_advance 35 = .ok (.goto (-35), 3) := by decide +kernel
theorem dX5_advance_38 : decode cX5_advance 38 = .ok (.aload_n 0, 1) := by decide +kernel
theorem dX5_advance_39 : decode cX5_advance 39 = .ok (.aload_n 0, 1) := by decide +kernel
theorem dX5_advance_40 : decode cX5_advance 40 = .ok (.getfield 26, 3) := by decide +kernel
theorem dX5_advance_43 : decode cX5_advance 43 = .ok (.putfield 32, 3) := by decide +kernel
theorem dX5_advance_46 : decode cX5_advance 46 = .ok (.aload_n 0, 1) := by decide +kernel
theorem dX5_advance_47 : decode cX5_advance 47 = .ok (.getfield 26, 3) := by decide +kernel
theorem dX5_advance_50 : decode cX5_advance 50 = .ok (.aload_n 0, 1) := by decide +kernel
theorem dX5_advance_51 : decode cX5_advance 51 = .ok (.getfield 18, 3) := by decide +kernel
theorem dX5_advance_54 : decode cX5_advance 54 = .ok (.if_icmp .lt 11, 3) := by decide +kernel
theorem dX5_advance_57 : decode cX5_advance 57 = .ok (.aload_n 0, 1) := by decide +kernel
theorem dX5_advance_58 : decode cX5_advance 58 = .ok (.iconst 0, 1) := by decide +kernel
theorem dX5_advance_59 : decode cX5_advance 59 = .ok (.putfield 29, 3) := by decide +kernel
theorem dX5_advance_62 : decode cX5_advance 62 = .ok (.goto 200, 3) := by decide +kernel
theorem dX5_advance_65 : decode cX5_advance 65 = .ok (.aload_n 0, 1) := by decide +kernel
theorem dX5_advance_66 : decode cX5_advance 66 = .ok (.getfield 22, 3) := by decide +kernel
theorem dX5_advance_69 : decode cX5_advance 69 = .ok (.aload_n 0, 1) := by decide +kernel
theorem dX5_advance_70 : decode cX5_advance 70 = .ok (.getfield 26, 3) := by decide +kernel
theorem dX5_advance_73 : decode cX5_advance 73 = .ok (.baload, 1) := by decide +kernel
theorem dX5_advance_74 : decode cX5_advance 74 = .ok (.invokestatic 93, 3) := by decide +kernel
theorem dX5_advance_77 : decode cX5_advance 77 = .ok (.ifCond .eq 47, 3) := by decide +kernel
theorem dX5_advance_80 : decode cX5_advance 80 = .ok (.aload_n 0, 1) := by decide +kernel
theorem dX5_advance_81 : decode cX5_advance 81 = .ok (.iconst 1, 1) := by decide +kernel
theorem dX5_advance_82 : decode cX5_advance 82 = .ok (.putfield 29, 3) := by decide +kernel
theorem dX5_advance_85 : decode cX5_advance 85 = .ok (.aload_n 0, 1) := by decide +kernel
theorem dX5_advance_86 : decode cX5_advance 86 = .ok (.getfield 26, 3) := by decide +kernel
theorem dX5_advance_89 : decode cX5_advance 89 = .ok (.aload_n 0, 1) := by decide +kernel
theorem dX5_advance_90 : decode cX5_advance 90 = .ok (.getfield 18, 3) := by decide +kernel
theorem dX5_advance_93 : decode cX5_advance 93 = .ok (.if_icmp .ge 169, 3) := by decide +kernel
theorem dX5_advance_96 : decode cX5_advance 96 = .ok (.aload_n 0, 1) := by decide +kernel
theorem dX5_advance_97 : decode cX5_advance 97 = .ok (.getfield 22, 3) := by decide +kernel
theorem dX5_advance_100 : decode cX5_advance 100 = .ok (.aload_n 0, 1) := by decide +kernel
theorem dX5_advance_101 : decode cX5_advance 101 = .ok (.getfield 26, 3) := by decide +kernel
theorem dX5_advance_104 : decode cX5_advance 104 = .ok (.baload, 1) := by decide +kernel
theorem dX5_advance_105 : decode cX5_advance 105 = .ok (.invokestatic 93, 3) := by decide +kernel
theorem dX5_advance_108 : decode cX5_advance 108 = .ok (.ifCond .eq 154, 3) := by decide +kernel
theorem dX5_advance_111 : decode cX5_advance 111 = .ok (.aload_n 0, 1) := by decide +kernel
theorem dX5_advance_112 : decode cX5_advance 112 = .ok (.dup, 1) := by decide +kernel
theorem dX5_advance_113 : decode cX5_advance 113 = .ok (.getfield 26, 3) := by decide +kernel
theorem dX5_advance_116 : decode cX5_advance 116 = .ok (.iconst 1, 1) := by decide +kernel
theorem dX5_advance_117 : decode cX5_advance 117 = .ok (.iadd, 1) := by decide +kernel
theorem dX5_advance_118 : decode cX5_advance 118 = .ok (.putfield 26, 3) := by decide +kernel
theorem dX5_advance_121 : decode cX5_advance 121 = .ok (.goto (-36), 3) := by decide +kernel
theorem dX5_advance_124 : decode cX5_advance 124 = .ok (.aload_n 0, 1) := by decide +kernel
theorem dX5_advance_125 : decode cX5_advance 125 = .ok (.getfield 22, 3) := by decide +kernel
theorem dX5_advance_128 : decode cX5_advance 128 = .ok (.aload_n 0, 1) := by decide +kernel
theorem dX5_advance_129 : decode cX5_advance 129 = .ok (.getfield 26, 3) := by decide +kernel
theorem dX5_advance_132 : decode cX5_advance 132 = .ok (.baload, 1) := by decide +kernel
theorem dX5_advance_133 : decode cX5_advance 133 = .ok (.invokestatic 97, 3) := by decide +kernel
theorem dX5_advance_136 : decode cX5_advance 136 = .ok (.ifCond .eq 93, 3) := by decide +kernel
theorem dX5_advance_139 : decode cX5_advance 139 = .ok (.aload_n 0, 1) := by decide +kernel
theorem dX5_advance_140 : decode cX5_advance 140 = .ok (.iconst 2, 1) := by decide +kernel
theorem dX5_advance_141 : decode cX5_advance 141 = .ok (.putfield 29, 3) := by decide +kernel
theorem dX5_advance_144 : decode cX5_advance 144 = .ok (.aload_n 0, 1) := by decide +kernel
theorem dX5_advance_145 : decode cX5_advance 145 = .ok (.iconst 0, 1) := by decide +kernel
theorem dX5_advance_146 : decode cX5_advance 146 = .ok (.putfield 35, 3) := by decide +kernel
theorem dX5_advance_149 : decode cX5_advance 149 = .ok (.aload_n 0, 1) := by decide +kernel
theorem dX5_advance_150 : decode cX5_advance 150 = .ok (.getfield 26, 3) := by decide +kernel
theorem dX5_advance_153 : decode cX5_advance 153 = .ok (.aload_n 0, 1) := by decide +kernel
theorem dX5_advance_154 : decode cX5_advance 154 = .ok (.getfield 18, 3) := by decide +kernel
theorem dX5_advance_157 : decode cX5_advance 157 = .ok (.if_icmp .ge 105, 3) := by decide +kernel
theorem dX5_advance_160 : decode cX5_advance 160 = .ok (.aload_n 0, 1) := by decide +kernel
theorem dX5_advance_161 : decode cX5_advance 161 = .ok (.getfield 22, 3) := by decide +kernel
theorem dX5_advance_164 : decode cX5_advance 164 = .ok (.aload_n 0, 1) := by decide +kernel
theorem dX5_advance_165 : decode cX5_advance 165 = .ok (.getfield 26, 3) := by decide +kernel
theorem dX5_advance_168 : decode cX5_advance 168 = .ok (.baload, 1) := by decide +kernel
theorem dX5_advance_169 : decode cX5_advance 169 = .ok (.invokestatic 97, 3) := by decide +kernel
theorem dX5_advance_172 : decode cX5_advance 172 = .ok (.ifCond .eq 90, 3) := by decide +kernel
theorem dX5_advance_175 : decode cX5_advance 175 = .ok (.aload_n 0, 1) := by decide +kernel
theorem dX5_advance_176 : decode cX5_advance 176 = .ok (.aload_n 0, 1) := by decide +kernel
theorem dX5_advance_177 : decode cX5_advance 177 = .ok (.getfield 26, 3) := by decide +kernel
theorem dX5_advance_180 : decode cX5_advance 180 = .ok (.aload_n 0, 1) := by decide +kernel
theorem dX5_advance_181 : decode cX5_advance 181 = .ok (.getfield 32, 3) := by decide +kernel
theorem dX5_advance_184 : decode cX5_advance 184 = .ok (.isub, 1) := by decide +kernel
theorem dX5_advance_185 : decode cX5_advance 185 = .ok (.iconst 2, 1) := by decide +kernel
theorem dX5_advance_186 : decode cX5_advance 186 = .ok (.if_icmp .ge 26, 3) := by decide +kernel
theorem dX5_advance_189 : decode cX5_advance 189 = .ok (.bipush 10, 2) := by decide +kernel
theorem dX5_advance_191 : decode cX5_advance 191 = .ok (.aload_n 0, 1) := by decide +kernel
theorem dX5_advance_192 : decode cX5_advance 192 = .ok (.getfield 35, 3) := by decide +kernel
theorem dX5_advance_195 : decode cX5_advance 195 = .ok (.imul, 1) := by decide +kernel
theorem dX5_advance_196 : decode cX5_advance 196 = .ok (.aload_n 0, 1) := by decide +kernel
theorem dX5_advance_197 : decode cX5_advance 197 = .ok (.getfield 22, 3) := by decide +kernel
theorem dX5_advance_200 : decode cX5_advance 200 = .ok (.aload_n 0, 1) := by decide +kernel
theorem dX5_advance_201 : decode cX5_advance 201 = .ok (.getfield 26, 3) := by decide +kernel
theorem dX5_advance_204 : decode cX5_advance 204 = .ok (.baload, 1) := by decide +kernel
theorem dX5_advance_205 : decode cX5_advance 205 = .ok (.iadd, 1) := by decide +kernel
theorem dX5_advance_206 : decode cX5_advance 206 = .ok (.bipush 48, 2) := by decide +kernel
theorem dX5_advance_208 : decode cX5_advance 208 = .ok (.isub, 1) := by decide +kernel
theorem dX5_advance_209 : decode cX5_advance 209 = .ok (.goto 4, 3) := by decide +kernel
theorem dX5_advance_212 : decode cX5_advance 212 = .ok (.iconst (-1), 1) := by decide +kernel
theorem dX5_advance_213 : decode cX5_advance 213 = .ok (.putfield 35, 3) := by decide +kernel
theorem dX5_advance_216 : decode cX5_advance 216 = .ok (.aload_n 0, 1) := by decide +kernel
theorem dX5_advance_217 : decode cX5_advance 217 = .ok (.dup, 1) := by decide +kernel
theorem dX5_advance_218 : decode cX5_advance 218 = .ok (.getfield 26, 3) := by decide +kernel
theorem dX5_advance_221 : decode cX5_advance 221 = .ok (.iconst 1, 1) := by decide +kernel
theorem dX5_advance_222 : decode cX5_advance 222 = .ok (.iadd, 1) := by decide +kernel
theorem dX5_advance_223 : decode cX5_advance 223 = .ok (.putfield 26, 3) := by decide +kernel
theorem dX5_advance_226 : decode cX5_advance 226 = .ok (.goto (-77), 3) := by decide +kernel
theorem dX5_advance_229 : decode cX5_advance 229 = .ok (.aload_n 0, 1) := by decide +kernel
theorem dX5_advance_230 : decode cX5_advance 230 = .ok (.aload_n 0, 1) := by decide +kernel
theorem dX5_advance_231 : decode cX5_advance 231 = .ok (.getfield 22, 3) := by decide +kernel
theorem dX5_advance_234 : decode cX5_advance 234 = .ok (.aload_n 0, 1) := by decide +kernel
theorem dX5_advance_235 : decode cX5_advance 235 = .ok (.getfield 26, 3) := by decide +kernel
theorem dX5_advance_238 : decode cX5_advance 238 = .ok (.baload, 1) := by decide +kernel
theorem dX5_advance_239 : decode cX5_advance 239 = .ok (.bipush 59, 2) := by decide +kernel
theorem dX5_advance_241 : decode cX5_advance 241 = .ok (.if_icmp .ne 7, 3) := by decide +kernel
theorem dX5_advance_244 : decode cX5_advance 244 = .ok (.iconst 3, 1) := by decide +kernel
theorem dX5_advance_245 : decode cX5_advance 245 = .ok (.goto 4, 3) := by decide +kernel
theorem dX5_advance_248 : decode cX5_advance 248 = .ok (.iconst 4, 1) := by decide +kernel
theorem dX5_advance_249 : decode cX5_advance 249 = .ok (.putfield 29, 3) := by decide +kernel
theorem dX5_advance_252 : decode cX5_advance 252 = .ok (.aload_n 0, 1) := by decide +kernel
theorem dX5_advance_253 : decode cX5_advance 253 = .ok (.dup, 1) := by decide +kernel
theorem dX5_advance_254 : decode cX5_advance 254 = .ok (.getfield 26, 3) := by decide +kernel
theorem dX5_advance_257 : decode cX5_advance 257 = .ok (.iconst 1, 1) := by decide +kernel
theorem dX5_advance_258 : decode cX5_advance 258 = .ok (.iadd, 1) := by decide +kernel
theorem dX5_advance_259 : decode cX5_advance 259 = .ok (.putfield 26, 3) := by decide +kernel
theorem dX5_advance_262 : decode cX5_advance 262 = .ok (.return_, 1) := by decide +kernel
theorem dX5_spells_0 : decode cX5_spells 0 = .ok (.aload_n 0, 1) := by decide +kernel
theorem dX5_spells_1 : decode cX5_spells 1 = .ok (.getfield 26, 3) := by decide +kernel
theorem dX5_spells_4 : decode cX5_spells 4 = .ok (.aload_n 0, 1) := by decide +kernel
theorem dX5_spells_5 : decode cX5_spells 5 = .ok (.getfield 32, 3) := by decide +kernel
theorem dX5_spells_8 : decode cX5_spells 8 = .ok (.isub, 1) := by decide +kernel
theorem dX5_spells_9 : decode cX5_spells 9 = .ok (.aload_n 1, 1) := by decide +kernel
theorem dX5_spells_10 : decode cX5_spells 10 = .ok (.invokevirtual 100, 3) := by decide +kernel
theorem dX5_spells_13 : decode cX5_spells 13 = .ok (.if_icmp .eq 5, 3) := by decide +kernel
theorem dX5_spells_16 : decode cX5_spells 16 = .ok (.iconst 0, 1) := by decide +kernel
theorem dX5_spells_17 : decode cX5_spells 17 = .ok (.ireturn, 1) := by decide +kernel
theorem dX5_spells_18 : decode cX5_spells 18 = .ok (.iconst 0, 1) := by decide +kernel
theorem dX5_spells_19 : decode cX5_spells 19 = .ok (.istore_n 2, 1) := by decide +kernel
theorem dX5_spells_20 : decode cX5_spells 20 = .ok (.iload_n 2, 1) := by decide +kernel
theorem dX5_spells_21 : decode cX5_spells 21 = .ok (.aload_n 1, 1) := by decide +kernel
theorem dX5_spells_22 : decode cX5_spells 22 = .ok (.invokevirtual 100, 3) := by decide +kernel
theorem dX5_spells_25 : decode cX5_spells 25 = .ok (.if_icmp .ge 30, 3) := by decide +kernel
theorem dX5_spells_28 : decode cX5_spells 28 = .ok (.aload_n 0, 1) := by decide +kernel
theorem dX5_spells_29 : decode cX5_spells 29 = .ok (.getfield 22, 3) := by decide +kernel
theorem dX5_spells_32 : decode cX5_spells 32 = .ok (.aload_n 0, 1) := by decide +kernel
theorem dX5_spells_33 : decode cX5_spells 33 = .ok (.getfield 32, 3) := by decide +kernel
theorem dX5_spells_36 : decode cX5_spells 36 = .ok (.iload_n 2, 1) := by decide +kernel
theorem dX5_spells_37 : decode cX5_spells 37 = .ok (.iadd, 1) := by decide +kernel
theorem dX5_spells_38 : decode cX5_spells 38 = .ok (.baload, 1) := by decide +kernel
theorem dX5_spells_39 : decode cX5_spells 39 = .ok (.aload_n 1, 1) := by decide +kernel
theorem dX5_spells_40 : decode cX5_spells 40 = .ok (.iload_n 2, 1) := by decide +kernel
theorem dX5_spells_41 : decode cX5_spells 41 = .ok (.invokevirtual 105, 3) := by decide +kernel
theorem dX5_spells_44 : decode cX5_spells 44 = .ok (.if_icmp .eq 5, 3) := by decide +kernel
theorem dX5_spells_47 : decode cX5_spells 47 = .ok (.iconst 0, 1) := by decide +kernel
theorem dX5_spells_48 : decode cX5_spells 48 = .ok (.ireturn, 1) := by decide +kernel
theorem dX5_spells_49 : decode cX5_spells 49 = .ok (.iinc 2 1, 3) := by decide +kernel
theorem dX5_spells_52 : decode cX5_spells 52 = .ok (.goto (-32), 3) := by decide +kernel
theorem dX5_spells_55 : decode cX5_spells 55 = .ok (.iconst 1, 1) := by decide +kernel
theorem dX5_spells_56 : decode cX5_spells 56 = .ok (.ireturn, 1) := by decide +kernel
theorem dX5_isLetter_0 : decode cX5_isLetter 0 = .ok (.iload_n 0, 1) := by decide +kernel
theorem dX5_isLetter_1 : decode cX5_isLetter 1 = .ok (.bipush 97, 2) := by decide +kernel
theorem dX5_isLetter_3 : decode cX5_isLetter 3 = .ok (.if_icmp .lt 13, 3) := by decide +kernel
theorem dX5_isLetter_6 : decode cX5_isLetter 6 = .ok (.iload_n 0, 1) := by decide +kernel
theorem dX5_isLetter_7 : decode cX5_isLetter 7 = .ok (.bipush 122, 2) := by decide +kernel
theorem dX5_isLetter_9 : decode cX5_isLetter 9 = .ok (.if_icmp .gt 7, 3) := by decide +kernel
theorem dX5_isLetter_12 : decode cX5_isLetter 12 = .ok (.iconst 1, 1) := by decide +kernel
theorem dX5_isLetter_13 : decode cX5_isLetter 13 = .ok (.goto 4, 3) := by decide +kernel
theorem dX5_isLetter_16 : decode cX5_isLetter 16 = .ok (.iconst 0, 1) := by decide +kernel
theorem dX5_isLetter_17 : decode cX5_isLetter 17 = .ok (.ireturn, 1) := by decide +kernel
theorem dX5_isFigure_0 : decode cX5_isFigure 0 = .ok (.iload_n 0, 1) := by decide +kernel
theorem dX5_isFigure_1 : decode cX5_isFigure 1 = .ok (.bipush 48, 2) := by decide +kernel
theorem dX5_isFigure_3 : decode cX5_isFigure 3 = .ok (.if_icmp .lt 13, 3) := by decide +kernel
theorem dX5_isFigure_6 : decode cX5_isFigure 6 = .ok (.iload_n 0, 1) := by decide +kernel
theorem dX5_isFigure_7 : decode cX5_isFigure 7 = .ok (.bipush 57, 2) := by decide +kernel
theorem dX5_isFigure_9 : decode cX5_isFigure 9 = .ok (.if_icmp .gt 7, 3) := by decide +kernel
theorem dX5_isFigure_12 : decode cX5_isFigure 12 = .ok (.iconst 1, 1) := by decide +kernel
theorem dX5_isFigure_13 : decode cX5_isFigure 13 = .ok (.goto 4, 3) := by decide +kernel
theorem dX5_isFigure_16 : decode cX5_isFigure 16 = .ok (.iconst 0, 1) := by decide +kernel
theorem dX5_isFigure_17 : decode cX5_isFigure 17 = .ok (.ireturn, 1) := by decide +kernel
theorem dX6_init_0 : decode cX6_init 0 = .ok (.aload_n 0, 1) := by decide +kernel
theorem dX6_init_1 : decode cX6_init 1 = .ok (.invokespecial 3, 3) := by decide +kernel
theorem dX6_init_4 : decode cX6_init 4 = .ok (.aload_n 0, 1) := by decide +kernel
theorem dX6_init_5 : decode cX6_init 5 = .ok (.bipush 6, 2) := by decide +kernel
theorem dX6_init_7 : decode cX6_init 7 = .ok (.newarray .int, 2) := by decide +kernel
theorem dX6_init_9 : decode cX6_init 9 = .ok (.putfield 9, 3) := by decide +kernel
theorem dX6_init_12 : decode cX6_init 12 = .ok (.aload_n 0, 1) := by decide +kernel
theorem dX6_init_13 : decode cX6_init 13 = .ok (.sipush 128, 3) := by decide +kernel
theorem dX6_init_16 : decode cX6_init 16 = .ok (.newarray .boolean, 2) := by decide +kernel
theorem dX6_init_18 : decode cX6_init 18 = .ok (.putfield 15, 3) := by decide +kernel
theorem dX6_init_21 : decode cX6_init 21 = .ok (.aload_n 0, 1) := by decide +kernel
theorem dX6_init_22 : decode cX6_init 22 = .ok (.iconst 0, 1) := by decide +kernel
theorem dX6_init_23 : decode cX6_init 23 = .ok (.putfield 19, 3) := by decide +kernel
theorem dX6_init_26 : decode cX6_init 26 = .ok (.aload_n 0, 1) := by decide +kernel
theorem dX6_init_27 : decode cX6_init 27 = .ok (.sipush 128, 3) := by decide +kernel
theorem dX6_init_30 : decode cX6_init 30 = .ok (.newarray .int, 2) := by decide +kernel
theorem dX6_init_32 : decode cX6_init 32 = .ok (.putfield 23, 3) := by decide +kernel
theorem dX6_init_35 : decode cX6_init 35 = .ok (.aload_n 0, 1) := by decide +kernel
theorem dX6_init_36 : decode cX6_init 36 = .ok (.bipush 24, 2) := by decide +kernel
theorem dX6_init_38 : decode cX6_init 38 = .ok (.newarray .int, 2) := by decide +kernel
theorem dX6_init_40 : decode cX6_init 40 = .ok (.putfield 26, 3) := by decide +kernel
theorem dX6_init_43 : decode cX6_init 43 = .ok (.aload_n 0, 1) := by decide +kernel
theorem dX6_init_44 : decode cX6_init 44 = .ok (.aload_n 1, 1) := by decide +kernel
theorem dX6_init_45 : decode cX6_init 45 = .ok (.putfield 29, 3) := by decide +kernel
theorem dX6_init_48 : decode cX6_init 48 = .ok (.aload_n 0, 1) := by decide +kernel
theorem dX6_init_49 : decode cX6_init 49 = .ok (.aload_n 2, 1) := by decide +kernel
theorem dX6_init_50 : decode cX6_init 50 = .ok (.putfield 33, 3) := by decide +kernel
theorem dX6_init_53 : decode cX6_init 53 = .ok (.return_, 1) := by decide +kernel
theorem dX6_howManySets_0 : decode cX6_howManySets 0 = .ok (.iconst 1, 1) := by decide +kernel
theorem dX6_howManySets_1 : decode cX6_howManySets 1 = .ok (.aload_n 0, 1) := by decide +kernel
theorem dX6_howManySets_2 : decode cX6_howManySets 2 = .ok (.getfield 29, 3) := by decide +kernel
theorem dX6_howManySets_5 : decode cX6_howManySets 5 = .ok (.getfield 37, 3) := by decide +kernel
theorem dX6_howManySets_8 : decode cX6_howManySets 8 = .ok (.ishl, 1) := by decide +kernel
theorem dX6_howManySets_9 : decode cX6_howManySets 9 = .ok (.ireturn, 1) := by decide +kernel
theorem dX6_layWanted_0 : decode cX6_layWanted 0 = .ok (.iconst 0, 1) := by decide +kernel
theorem dX6_layWanted_1 : decode cX6_layWanted 1 = .ok (.istore_n 3, 1) := by decide +kernel
theorem dX6_layWanted_2 : decode cX6_layWanted 2 = .ok (.iload_n 3, 1) := by decide +kernel
theorem dX6_layWanted_3 : decode cX6_layWanted 3 = .ok (.aload_n 0, 1) := by decide +kernel
theorem dX6_layWanted_4 : decode cX6_layWanted 4 = .ok (.getfield 29, 3) := by decide +kernel
theorem dX6_layWanted_7 : decode cX6_layWanted 7 = .ok (.getfield 42, 3) := by decide +kernel
theorem dX6_layWanted_10 : decode cX6_layWanted 10 = .ok (.if_icmp .ge 33, 3) := by decide +kernel
theorem dX6_layWanted_13 : decode cX6_layWanted 13 = .ok (.aload_n 0, 1) := by decide +kernel
theorem dX6_layWanted_14 : decode cX6_layWanted 14 = .ok (.getfield 9, 3) := by decide +kernel
theorem dX6_layWanted_17 : decode cX6_layWanted 17 = .ok (.iload_n 3, 1) := by decide +kernel
theorem dX6_layWanted_18 : decode cX6_layWanted 18 = .ok (.aload_n 0, 1) := by decide +kernel
theorem dX6_layWanted_19 : decode cX6_layWanted 19 = .ok (.getfield 33, 3) := by decide +kernel
theorem dX6_layWanted_22 : decode cX6_layWanted 22 = .ok (.aload_n 0, 1) := by decide +kernel
theorem dX6_layWanted_23 : decode cX6_layWanted 23 = .ok (.getfield 29, 3) := by decide +kernel
theorem dX6_layWanted_26 : decode cX6_layWanted 26 = .ok (.getfield 45, 3) := by decide +kernel
theorem dX6_layWanted_29 : decode cX6_layWanted 29 = .ok (.iload_n 3, 1) := by decide +kernel
theorem dX6_layWanted_30 : decode cX6_layWanted 30 = .ok (.iaload, 1) := by decide +kernel
theorem dX6_layWanted_31 : decode cX6_layWanted 31 = .ok (.iload_n 1, 1) := by decide +kernel
theorem dX6_layWanted_32 : decode cX6_layWanted 32 = .ok (.iload_n 2, 1) := by decide +kernel
theorem dX6_layWanted_33 : decode cX6_layWanted 33 = .ok (.invokevirtual 48, 3) := by decide +kernel
theorem dX6_layWanted_36 : decode cX6_layWanted 36 = .ok (.iastore, 1) := by decide +kernel
theorem dX6_layWanted_37 : decode cX6_layWanted 37 = .ok (.iinc 3 1, 3) := by decide +kernel
theorem dX6_layWanted_40 : decode cX6_layWanted 40 = .ok (.goto (-38), 3) := by decide +kernel
theorem dX6_layWanted_43 : decode cX6_layWanted 43 = .ok (.return_, 1) := by decide +kernel
theorem dX6_lightsWanted_0 : decode cX6_lightsWanted 0 = .ok (.iconst 0, 1) := by decide +kernel
theorem dX6_lightsWanted_1 : decode cX6_lightsWanted 1 = .ok (.istore_n 2, 1) := by decide +kernel
theorem dX6_lightsWanted_2 : decode cX6_lightsWanted 2 = .ok (.iload_n 2, 1) := by decide +kernel
theorem dX6_lightsWanted_3 : decode cX6_lightsWanted 3 = .ok (.aload_n 0, 1) := by decide +kernel
theorem dX6_lightsWanted_4 : decode cX6_lightsWanted 4 = .ok (.getfield 29, 3) := by decide +kernel
theorem dX6_lightsWanted_7 : decode cX6_lightsWanted 7 = .ok (.getfield 42, 3) := by decide +kernel
theorem dX6_lightsWanted_10 : decode cX6_lightsWanted 10 = .ok (.if_icmp .ge 22, 3) := by decide +kernel
theorem dX6_lightsWanted_13 : decode cX6_lightsWanted 13 = .ok (.iload_n 1, 1) := by decide +kernel
theorem dX6_lightsWanted_14 : decode cX6_lightsWanted 14 = .ok (.aload_n 0, 1) := by decide +kernel
theorem dX6_lightsWanted_15 : decode cX6_lightsWanted 15 = .ok (.getfield 9, 3) := by decide +kernel
theorem dX6_lightsWanted_18 : decode cX6_lightsWanted 18 = .ok (.iload_n 2, 1) := by decide +kernel
theorem dX6_lightsWanted_19 : decode cX6_lightsWanted 19 = .ok (.iaload, 1) := by decide +kernel
theorem dX6_lightsWanted_20 : decode cX6_lightsWanted 20 = .ok (.iand, 1) := by decide +kernel
theorem dX6_lightsWanted_21 : decode cX6_lightsWanted 21 = .ok (.ifCond .ne 5, 3) := by decide +kernel
theorem dX6_lightsWanted_24 : decode cX6_lightsWanted 24 = .ok (.iconst 0, 1) := by decide +kernel
theorem dX6_lightsWanted_25 : decode cX6_lightsWanted 25 = .ok (.ireturn, 1) := by decide +kernel
theorem dX6_lightsWanted_26 : decode cX6_lightsWanted 26 = .ok (.iinc 2 1, 3) := by decide +kernel
theorem dX6_lightsWanted_29 : decode cX6_lightsWanted 29 = .ok (.goto (-27), 3) := by decide +kernel
theorem dX6_lightsWanted_32 : decode cX6_lightsWanted 32 = .ok (.iconst 1, 1) := by decide +kernel
theorem dX6_lightsWanted_33 : decode cX6_lightsWanted 33 = .ok (.ireturn, 1) := by decide +kernel
theorem dX6_fewest_0 : decode cX6_fewest 0 = .ok (.iconst (-1), 1) := by decide +kernel
theorem dX6_fewest_1 : decode cX6_fewest 1 = .ok (.istore_n 1, 1) := by decide +kernel
theorem dX6_fewest_2 : decode cX6_fewest 2 = .ok (.iconst 0, 1) := by decide +kernel
theorem dX6_fewest_3 : decode cX6_fewest 3 = .ok (.istore_n 2, 1) := by decide +kernel
theorem dX6_fewest_4 : decode cX6_fewest 4 = .ok (.iload_n 2, 1) := by decide +kernel
theorem dX6_fewest_5 : decode cX6_fewest 5 = .ok (.aload_n 0, 1) := by decide +kernel
theorem dX6_fewest_6 : decode cX6_fewest 6 = .ok (.invokevirtual 54, 3) := by decide +kernel
theorem dX6_fewest_9 : decode cX6_fewest 9 = .ok (.if_icmp .ge 35, 3) := by decide +kernel
theorem dX6_fewest_12 : decode cX6_fewest 12 = .ok (.aload_n 0, 1) := by decide +kernel
theorem dX6_fewest_13 : decode cX6_fewest 13 = .ok (.iload_n 2, 1) := by decide +kernel
theorem dX6_fewest_14 : decode cX6_fewest 14 = .ok (.invokevirtual 58, 3) := by decide +kernel
theorem dX6_fewest_17 : decode cX6_fewest 17 = .ok (.ifCond .eq 21, 3) := by decide +kernel
theorem dX6_fewest_20 : decode cX6_fewest 20 = .ok (.iload_n 1, 1) := by decide +kernel
theorem dX6_fewest_21 : decode cX6_fewest 21 = .ok (.iconst (-1), 1) := by decide +kernel
theorem dX6_fewest_22 : decode cX6_fewest 22 = .ok (.if_icmp .eq 14, 3) := by decide +kernel
theorem dX6_fewest_25 : decode cX6_fewest 25 = .ok (.iload_n 2, 1) := by decide +kernel
theorem dX6_fewest_26 : decode cX6_fewest 26 = .ok (.invokestatic 62, 3) := by decide +kernel
theorem dX6_fewest_29 : decode cX6_fewest 29 = .ok (.iload_n 1, 1) := by decide +kernel
theorem dX6_fewest_30 : decode cX6_fewest 30 = .ok (.invokestatic 62, 3) := by decide +kernel
theorem dX6_fewest_33 : decode cX6_fewest 33 = .ok (.if_icmp .ge 5, 3) := by decide +kernel
theorem dX6_fewest_36 : decode cX6_fewest 36 = .ok (.iload_n 2, 1) := by decide +kernel
theorem dX6_fewest_37 : decode cX6_fewest 37 = .ok (.istore_n 1, 1) := by decide +kernel
theorem dX6_fewest_38 : decode cX6_fewest 38 = .ok (.iinc 2 1, 3) := by decide +kernel
theorem dX6_fewest_41 : decode cX6_fewest 41 = .ok (.goto (-37), 3) := by decide +kernel
theorem dX6_fewest_44 : decode cX6_fewest 44 = .ok (.iload_n 1, 1) := by decide +kernel
theorem dX6_fewest_45 : decode cX6_fewest 45 = .ok (.ireturn, 1) := by decide +kernel
theorem dX6_leastTallow_0 : decode cX6_leastTallow 0 = .ok (.iconst (-1), 1) := by decide +kernel
theorem dX6_leastTallow_1 : decode cX6_leastTallow 1 = .ok (.istore_n 1, 1) := by decide +kernel
theorem dX6_leastTallow_2 : decode cX6_leastTallow 2 = .ok (.iconst 0, 1) := by decide +kernel
theorem dX6_leastTallow_3 : decode cX6_leastTallow 3 = .ok (.istore_n 2, 1) := by decide +kernel
theorem dX6_leastTallow_4 : decode cX6_leastTallow 4 = .ok (.iload_n 2, 1) := by decide +kernel
theorem dX6_leastTallow_5 : decode cX6_leastTallow 5 = .ok (.aload_n 0, 1) := by decide +kernel
theorem dX6_leastTallow_6 : decode cX6_leastTallow 6 = .ok (.invokevirtual 54, 3) := by decide +kernel
theorem dX6_leastTallow_9 : decode cX6_leastTallow 9 = .ok (.if_icmp .ge 37, 3) := by decide +kernel
theorem dX6_leastTallow_12 : decode cX6_leastTallow 12 = .ok (.aload_n 0, 1) := by decide +kernel
theorem dX6_leastTallow_13 : decode cX6_leastTallow 13 = .ok (.iload_n 2, 1) := by decide +kernel
theorem dX6_leastTallow_14 : decode cX6_leastTallow 14 = .ok (.invokevirtual 58, 3) := by decide +kernel
theorem dX6_leastTallow_17 : decode cX6_leastTallow 17 = .ok (.ifCond .eq 23, 3) := by decide +kernel
theorem dX6_leastTallow_20 : decode cX6_leastTallow 20 = .ok (.iload_n 1, 1) := by decide +kernel
theorem dX6_leastTallow_21 : decode cX6_leastTallow 21 = .ok (.iconst (-1), 1) := by decide +kernel
theorem dX6_leastTallow_22 : decode cX6_leastTallow 22 = .ok (.if_icmp .eq 12, 3) := by decide +kernel
theorem dX6_leastTallow_25 : decode cX6_leastTallow 25 = .ok (.aload_n 0, 1) := by decide +kernel
theorem dX6_leastTallow_26 : decode cX6_leastTallow 26 = .ok (.iload_n 2, 1) := by decide +kernel
theorem dX6_leastTallow_27 : decode cX6_leastTallow 27 = .ok (.invokevirtual 68, 3) := by decide +kernel
theorem dX6_leastTallow_30 : decode cX6_leastTallow 30 = .ok (.iload_n 1, 1) := by decide +kernel
theorem dX6_leastTallow_31 : decode cX6_leastTallow 31 = .ok (.if_icmp .ge 9, 3) := by decide +kernel
theorem dX6_leastTallow_34 : decode cX6_leastTallow 34 = .ok (.aload_n 0, 1) := by decide +kernel
theorem dX6_leastTallow_35 : decode cX6_leastTallow 35 = .ok (.iload_n 2, 1) := by decide +kernel
theorem dX6_leastTallow_36 : decode cX6_leastTallow 36 = .ok (.invokevirtual 68, 3) := by decide +kernel
theorem dX6_leastTallow_39 : decode cX6_leastTallow 39 = .ok (.istore_n 1, 1) := by decide +kernel
theorem dX6_leastTallow_40 : decode cX6_leastTallow 40 = .ok (.iinc 2 1, 3) := by decide +kernel
theorem dX6_leastTallow_43 : decode cX6_leastTallow 43 = .ok (.goto (-39), 3) := by decide +kernel
theorem dX6_leastTallow_46 : decode cX6_leastTallow 46 = .ok (.iload_n 1, 1) := by decide +kernel
theorem dX6_leastTallow_47 : decode cX6_leastTallow 47 = .ok (.ireturn, 1) := by decide +kernel
theorem dX6_tallowOf_0 : decode cX6_tallowOf 0 = .ok (.iconst 0, 1) := by decide +kernel
theorem dX6_tallowOf_1 : decode cX6_tallowOf 1 = .ok (.istore_n 2, 1) := by decide +kernel
theorem dX6_tallowOf_2 : decode cX6_tallowOf 2 = .ok (.iconst 0, 1) := by decide +kernel
theorem dX6_tallowOf_3 : decode cX6_tallowOf 3 = .ok (.istore_n 3, 1) := by decide +kernel
theorem dX6_tallowOf_4 : decode cX6_tallowOf 4 = .ok (.iload_n 3, 1) := by decide +kernel
theorem dX6_tallowOf_5 : decode cX6_tallowOf 5 = .ok (.aload_n 0, 1) := by decide +kernel
theorem dX6_tallowOf_6 : decode cX6_tallowOf 6 = .ok (.getfield 29, 3) := by decide +kernel
theorem dX6_tallowOf_9 : decode cX6_tallowOf 9 = .ok (.getfield 37, 3) := by decide +kernel
theorem dX6_tallowOf_12 : decode cX6_tallowOf 12 = .ok (.if_icmp .ge 34, 3) := by decide +kernel
theorem dX6_tallowOf_15 : decode cX6_tallowOf 15 = .ok (.iload_n 2, 1) := by decide +kernel
theorem dX6_tallowOf_16 : decode cX6_tallowOf 16 = .ok (.iload_n 1, 1) := by decide +kernel
theorem dX6_tallowOf_17 : decode cX6_tallowOf 17 = .ok (.iload_n 3, 1) := by decide +kernel
theorem dX6_tallowOf_18 : decode cX6_tallowOf 18 = .ok (.ishr, 1) := by decide +kernel
theorem dX6_tallowOf_19 : decode cX6_tallowOf 19 = .ok (.iconst 1, 1) := by decide +kernel
theorem dX6_tallowOf_20 : decode cX6_tallowOf 20 = .ok (.iand, 1) := by decide +kernel
theorem dX6_tallowOf_21 : decode cX6_tallowOf 21 = .ok (.iconst 1, 1) := by decide +kernel
theorem dX6_tallowOf_22 : decode cX6_tallowOf 22 = .ok (.if_icmp .ne 15, 3) := by decide +kernel
theorem dX6_tallowOf_25 : decode cX6_tallowOf 25 = .ok (.aload_n 0, 1) := by decide +kernel
theorem dX6_tallowOf_26 : decode cX6_tallowOf 26 = .ok (.getfield 29, 3) := by decide +kernel
theorem dX6_tallowOf_29 : decode cX6_tallowOf 29 = .ok (.getfield 71, 3) := by decide +kernel
theorem dX6_tallowOf_32 : decode cX6_tallowOf 32 = .ok (.iload_n 3, 1) := by decide +kernel
theorem dX6_tallowOf_33 : decode cX6_tallowOf 33 = .ok (.iaload, 1) := by decide +kernel
theorem dX6_tallowOf_34 : decode cX6_tallowOf 34 = .ok (.goto 4, 3) := by decide +kernel
theorem dX6_tallowOf_37 : decode cX6_tallowOf 37 = .ok (.iconst 0, 1) := by decide +kernel
theorem dX6_tallowOf_38 : decode cX6_tallowOf 38 = .ok (.iadd, 1) := by decide +kernel
theorem dX6_tallowOf_39 : decode cX6_tallowOf 39 = .ok (.istore_n 2, 1) := by decide +kernel
theorem dX6_tallowOf_40 : decode cX6_tallowOf 40 = .ok (.iinc 3 1, 3) := by decide +kernel
theorem dX6_tallowOf_43 : decode cX6_tallowOf 43 = .ok (.goto (-39), 3) := by decide +kernel
theorem dX6_tallowOf_46 : decode cX6_tallowOf 46 = .ok (.iload_n 2, 1) := by decide +kernel
theorem dX6_tallowOf_47 : decode cX6_tallowOf 47 = .ok (.ireturn, 1) := by decide +kernel
theorem dX6_layFitting_0 : decode cX6_layFitting 0 = .ok (.iconst 0, 1) := by decide +kernel
theorem dX6_layFitting_1 : decode cX6_layFitting 1 = .ok (.istore_n 1, 1) := by decide +kernel
theorem dX6_layFitting_2 : decode cX6_layFitting 2 = .ok (.iload_n 1, 1) := by decide +kernel
theorem dX6_layFitting_3 : decode cX6_layFitting 3 = .ok (.aload_n 0, 1) := by decide +kernel
theorem dX6_layFitting_4 : decode cX6_layFitting 4 = .ok (.invokevirtual 54, 3) := by decide +kernel
theorem dX6_layFitting_7 : decode cX6_layFitting 7 = .ok (.if_icmp .ge 16, 3) := by decide +kernel
theorem dX6_layFitting_10 : decode cX6_layFitting 10 = .ok (.aload_n 0, 1) := by decide +kernel
theorem dX6_layFitting_11 : decode cX6_layFitting 11 = .ok (.getfield 15, 3) := by decide +kernel
theorem dX6_layFitting_14 : decode cX6_layFitting 14 = .ok (.iload_n 1, 1) := by decide +kernel
theorem dX6_layFitting_15 : decode cX6_layFitting 15 = .ok (.iconst 1, 1) := by decide +kernel
theorem dX6_layFitting_16 : decode cX6_layFitting 16 = .ok (.bastore, 1) := by decide +kernel
theorem dX6_layFitting_17 : decode cX6_layFitting 17 = .ok (.iinc 1 1, 3) := by decide +kernel
theorem dX6_layFitting_20 : decode cX6_layFitting 20 = .ok (.goto (-18), 3) := by decide +kernel
theorem dX6_layFitting_23 : decode cX6_layFitting 23 = .ok (.iconst 0, 1) := by decide +kernel
theorem dX6_layFitting_24 : decode cX6_layFitting 24 = .ok (.istore_n 1, 1) := by decide +kernel
theorem dX6_layFitting_25 : decode cX6_layFitting 25 = .ok (.iload_n 1, 1) := by decide +kernel
theorem dX6_layFitting_26 : decode cX6_layFitting 26 = .ok (.aload_n 0, 1) := by decide +kernel
theorem dX6_layFitting_27 : decode cX6_layFitting 27 = .ok (.getfield 29, 3) := by decide +kernel
theorem dX6_layFitting_30 : decode cX6_layFitting 30 = .ok (.getfield 74, 3) := by decide +kernel
theorem dX6_layFitting_33 : decode cX6_layFitting 33 = .ok (.if_icmp .ge 147, 3) := by decide +kernel
theorem dX6_layFitting_36 : decode cX6_layFitting 36 = .ok (.aload_n 0, 1) := by decide +kernel
theorem dX6_layFitting_37 : decode cX6_layFitting 37 = .ok (.getfield 29, 3) := by decide +kernel
theorem dX6_layFitting_40 : decode cX6_layFitting 40 = .ok (.getfield 77, 3) := by decide +kernel
theorem dX6_layFitting_43 : decode cX6_layFitting 43 = .ok (.iload_n 1, 1) := by decide +kernel
theorem dX6_layFitting_44 : decode cX6_layFitting 44 = .ok (.iaload, 1) := by decide +kernel
theorem dX6_layFitting_45 : decode cX6_layFitting 45 = .ok (.istore_n 2, 1) := by decide +kernel
theorem dX6_layFitting_46 : decode cX6_layFitting 46 = .ok (.aload_n 0, 1) := by decide +kernel
theorem dX6_layFitting_47 : decode cX6_layFitting 47 = .ok (.getfield 33, 3) := by decide +kernel
theorem dX6_layFitting_50 : decode cX6_layFitting 50 = .ok (.aload_n 0, 1) := by decide +kernel
theorem dX6_layFitting_51 : decode cX6_layFitting 51 = .ok (.getfield 29, 3) := by decide +kernel
theorem dX6_layFitting_54 : decode cX6_layFitting 54 = .ok (.getfield 80, 3) := by decide +kernel
theorem dX6_layFitting_57 : decode cX6_layFitting 57 = .ok (.iload_n 1, 1) := by decide +kernel
theorem dX6_layFitting_58 : decode cX6_layFitting 58 = .ok (.iaload, 1) := by decide +kernel
theorem dX6_layFitting_59 : decode cX6_layFitting 59 = .ok (.aload_n 0, 1) := by decide +kernel
theorem dX6_layFitting_60 : decode cX6_layFitting 60 = .ok (.getfield 29, 3) := by decide +kernel
theorem dX6_layFitting_63 : decode cX6_layFitting 63 = .ok (.getfield 83, 3) := by decide +kernel
theorem dX6_layFitting_66 : decode cX6_layFitting 66 = .ok (.iload_n 1, 1) := by decide +kernel
theorem dX6_layFitting_67 : decode cX6_layFitting 67 = .ok (.iaload, 1) := by decide +kernel
theorem dX6_layFitting_68 : decode cX6_layFitting 68 = .ok (.iload_n 2, 1) := by decide +kernel
theorem dX6_layFitting_69 : decode cX6_layFitting 69 = .ok (.invokevirtual 48, 3) := by decide +kernel
theorem dX6_layFitting_72 : decode cX6_layFitting 72 = .ok (.istore_n 3, 1) := by decide +kernel
theorem dX6_layFitting_73 : decode cX6_layFitting 73 = .ok (.aload_n 0, 1) := by decide +kernel
theorem dX6_layFitting_74 : decode cX6_layFitting 74 = .ok (.getfield 33, 3) := by decide +kernel
theorem dX6_layFitting_77 : decode cX6_layFitting 77 = .ok (.aload_n 0, 1) := by decide +kernel
theorem dX6_layFitting_78 : decode cX6_layFitting 78 = .ok (.getfield 29, 3) := by decide +kernel
theorem dX6_layFitting_81 : decode cX6_layFitting 81 = .ok (.getfield 80, 3) := by decide +kernel
theorem dX6_layFitting_84 : decode cX6_layFitting 84 = .ok (.iload_n 1, 1) := by decide +kernel
theorem dX6_layFitting_85 : decode cX6_layFitting 85 = .ok (.iaload, 1) := by decide +kernel
theorem dX6_layFitting_86 : decode cX6_layFitting 86 = .ok (.aload_n 0, 1) := by decide +kernel
theorem dX6_layFitting_87 : decode cX6_layFitting 87 = .ok (.getfield 29, 3) := by decide +kernel
theorem dX6_layFitting_90 : decode cX6_layFitting 90 = .ok (.getfield 83, 3) := by decide +kernel
theorem dX6_layFitting_93 : decode cX6_layFitting 93 = .ok (.iload_n 1, 1) := by decide +kernel
theorem dX6_layFitting_94 : decode cX6_layFitting 94 = .ok (.iaload, 1) := by decide +kernel
theorem dX6_layFitting_95 : decode cX6_layFitting 95 = .ok (.iload_n 2, 1) := by decide +kernel
theorem dX6_layFitting_96 : decode cX6_layFitting 96 = .ok (.iconst 1, 1) := by decide +kernel
theorem dX6_layFitting_97 : decode cX6_layFitting 97 = .ok (.iadd, 1) := by decide +kernel
theorem dX6_layFitting_98 : decode cX6_layFitting 98 = .ok (.invokevirtual 48, 3) := by decide +kernel
theorem dX6_layFitting_101 : decode cX6_layFitting 101 = .ok (.istore 4, 2) := by decide +kernel
theorem dX6_layFitting_103 : decode cX6_layFitting 103 = .ok (.iconst 0, 1) := by decide +kernel
theorem dX6_layFitting_104 : decode cX6_layFitting 104 = .ok (.istore 5, 2) := by decide +kernel
theorem dX6_layFitting_106 : decode cX6_layFitting 106 = .ok (.iload 5, 2) := by decide +kernel
theorem dX6_layFitting_108 : decode cX6_layFitting 108 = .ok (.aload_n 0, 1) := by decide +kernel
theorem dX6_layFitting_109 : decode cX6_layFitting 109 = .ok (.invokevirtual 54, 3) := by decide +kernel
theorem dX6_layFitting_112 : decode cX6_layFitting 112 = .ok (.if_icmp .ge 62, 3) := by decide +kernel
theorem dX6_layFitting_115 : decode cX6_layFitting 115 = .ok (.iload_n 2, 1) := by decide +kernel
theorem dX6_layFitting_116 : decode cX6_layFitting 116 = .ok (.ifCond .eq 10, 3) := by decide +kernel
theorem dX6_layFitting_119 : decode cX6_layFitting 119 = .ok (.iload 5, 2) := by decide +kernel
theorem dX6_layFitting_121 : decode cX6_layFitting 121 = .ok (.iload_n 3, 1) := by decide +kernel
theorem dX6_layFitting_122 : decode cX6_layFitting 122 = .ok (.iand, 1) := by decide +kernel
theorem dX6_layFitting_123 : decode cX6_layFitting 123 = .ok (.ifCond .eq 7, 3) := by decide +kernel
theorem dX6_layFitting_126 : decode cX6_layFitting 126 = .ok (.iconst 1, 1) := by decide +kernel
theorem dX6_layFitting_127 : decode cX6_layFitting 127 = .ok (.goto 4, 3) := by decide +kernel
theorem dX6_layFitting_130 : decode cX6_layFitting 130 = .ok (.iconst 0, 1) := by decide +kernel
theorem dX6_layFitting_131 : decode cX6_layFitting 131 = .ok (.istore 6, 2) := by decide +kernel
theorem dX6_layFitting_133 : decode cX6_layFitting 133 = .ok (.aload_n 0, 1) := by decide +kernel
theorem dX6_layFitting_134 : decode cX6_layFitting 134 = .ok (.getfield 15, 3) := by decide +kernel
theorem dX6_layFitting_137 : decode cX6_layFitting 137 = .ok (.iload 5, 2) := by decide +kernel
theorem dX6_layFitting_139 : decode cX6_layFitting 139 = .ok (.aload_n 0, 1) := by decide +kernel
theorem dX6_layFitting_140 : decode cX6_layFitting 140 = .ok (.getfield 15, 3) := by decide +kernel
theorem dX6_layFitting_143 : decode cX6_layFitting 143 = .ok (.iload 5, 2) := by decide +kernel
theorem dX6_layFitting_145 : decode cX6_layFitting 145 = .ok (.baload, 1) := by decide +kernel
theorem dX6_layFitting_146 : decode cX6_layFitting 146 = .ok (.ifCond .eq 20, 3) := by decide +kernel
theorem dX6_layFitting_149 : decode cX6_layFitting 149 = .ok (.iload 6, 2) := by decide +kernel
theorem dX6_layFitting_151 : decode cX6_layFitting 151 = .ok (.ifCond .eq 15, 3) := by decide +kernel
theorem dX6_layFitting_154 : decode cX6_layFitting 154 = .ok (.iload 5, 2) := by decide +kernel
theorem dX6_layFitting_156 : decode cX6_layFitting 156 = .ok (.iload 4, 2) := by decide +kernel
theorem dX6_layFitting_158 : decode cX6_layFitting 158 = .ok (.iand, 1) := by decide +kernel
theorem dX6_layFitting_159 : decode cX6_layFitting 159 = .ok (.ifCond .ne 7, 3) := by decide +kernel
theorem dX6_layFitting_162 : decode cX6_layFitting 162 = .ok (.iconst 1, 1) := by decide +kernel
theorem dX6_layFitting_163 : decode cX6_layFitting 163 = .ok (.goto 4, 3) := by decide +kernel
theorem dX6_layFitting_166 : decode cX6_layFitting 166 = .ok (.iconst 0, 1) := by decide +kernel
theorem dX6_layFitting_167 : decode cX6_layFitting 167 = .ok (.bastore, 1) := by decide +kernel
theorem dX6_layFitting_168 : decode cX6_layFitting 168 = .ok (.iinc 5 1, 3) := by decide +kernel
theorem dX6_layFitting_171 : decode cX6_layFitting 171 = .ok (.goto (-65), 3) := by decide +kernel
theorem dX6_layFitting_174 : decode cX6_layFitting 174 = .ok (.iinc 1 1, 3) := by decide +kernel
theorem dX6_layFitting_177 : decode cX6_layFitting 177 = .ok (.goto (-152), 3) := by decide +kernel
theorem dX6_layFitting_180 : decode cX6_layFitting 180 = .ok (.aload_n 0, 1) := by decide +kernel
theorem dX6_layFitting_181 : decode cX6_layFitting 181 = .ok (.iconst 0, 1) := by decide +kernel
theorem dX6_layFitting_182 : decode cX6_layFitting 182 = .ok (.putfield 19, 3) := by decide +kernel
theorem dX6_layFitting_185 : decode cX6_layFitting 185 = .ok (.iconst 0, 1) := by decide +kernel
theorem dX6_layFitting_186 : decode cX6_layFitting 186 = .ok (.istore_n 1, 1) := by decide +kernel
theorem dX6_layFitting_187 : decode cX6_layFitting 187 = .ok (.iload_n 1, 1) := by decide +kernel
theorem dX6_layFitting_188 : decode cX6_layFitting 188 = .ok (.aload_n 0, 1) := by decide +kernel
theorem dX6_layFitting_189 : decode cX6_layFitting 189 = .ok (.invokevirtual 54, 3) := by decide +kernel
theorem dX6_layFitting_192 : decode cX6_layFitting 192 = .ok (.if_icmp .ge 32, 3) := by decide +kernel
theorem dX6_layFitting_195 : decode cX6_layFitting 195 = .ok (.aload_n 0, 1) := by decide +kernel
theorem dX6_layFitting_196 : decode cX6_layFitting 196 = .ok (.dup, 1) := by decide +kernel
theorem dX6_layFitting_197 : decode cX6_layFitting 197 = .ok (.getfield 19, 3) := by decide +kernel
theorem dX6_layFitting_200 : decode cX6_layFitting 200 = .ok (.aload_n 0, 1) := by decide +kernel
theorem dX6_layFitting_201 : decode cX6_layFitting 201 = .ok (.getfield 15, 3) := by decide +kernel
theorem dX6_layFitting_204 : decode cX6_layFitting 204 = .ok (.iload_n 1, 1) := by decide +kernel
theorem dX6_layFitting_205 : decode cX6_layFitting 205 = .ok (.baload, 1) := by decide +kernel
theorem dX6_layFitting_206 : decode cX6_layFitting 206 = .ok (.ifCond .eq 7, 3) := by decide +kernel
theorem dX6_layFitting_209 : decode cX6_layFitting 209 = .ok (.iconst 1, 1) := by decide +kernel
theorem dX6_layFitting_210 : decode cX6_layFitting 210 = .ok (.goto 4, 3) := by decide +kernel
theorem dX6_layFitting_213 : decode cX6_layFitting 213 = .ok (.iconst 0, 1) := by decide +kernel
theorem dX6_layFitting_214 : decode cX6_layFitting 214 = .ok (.iadd, 1) := by decide +kernel
theorem dX6_layFitting_215 : decode cX6_layFitting 215 = .ok (.putfield 19, 3) := by decide +kernel
theorem dX6_layFitting_218 : decode cX6_layFitting 218 = .ok (.iinc 1 1, 3) := by decide +kernel
theorem dX6_layFitting_221 : decode cX6_layFitting 221 = .ok (.goto (-34), 3) := by decide +kernel
theorem dX6_layFitting_224 : decode cX6_layFitting 224 = .ok (.return_, 1) := by decide +kernel
theorem dX6_inAll_0 : decode cX6_inAll 0 = .ok (.aload_n 0, 1) := by decide +kernel
theorem dX6_inAll_1 : decode cX6_inAll 1 = .ok (.getfield 19, 3) := by decide +kernel
theorem dX6_inAll_4 : decode cX6_inAll 4 = .ok (.ifCond .ne 5, 3) := by decide +kernel
theorem dX6_inAll_7 : decode cX6_inAll 7 = .ok (.iconst (-1), 1) := by decide +kernel
theorem dX6_inAll_8 : decode cX6_inAll 8 = .ok (.ireturn, 1) := by decide +kernel
theorem dX6_inAll_9 : decode cX6_inAll 9 = .ok (.aload_n 0, 1) := by decide +kernel
theorem dX6_inAll_10 : decode cX6_inAll 10 = .ok (.invokevirtual 54, 3) := by decide +kernel
theorem dX6_inAll_13 : decode cX6_inAll 13 = .ok (.iconst 1, 1) := by decide +kernel
theorem dX6_inAll_14 : decode cX6_inAll 14 = .ok (.isub, 1) := by decide +kernel
theorem dX6_inAll_15 : decode cX6_inAll 15 = .ok (.istore_n 1, 1) := by decide +kernel
theorem dX6_inAll_16 : decode cX6_inAll 16 = .ok (.iconst 0, 1) := by decide +kernel
theorem dX6_inAll_17 : decode cX6_inAll 17 = .ok (.istore_n 2, 1) := by decide +kernel
theorem dX6_inAll_18 : decode cX6_inAll 18 = .ok (.iload_n 2, 1) := by decide +kernel
theorem dX6_inAll_19 : decode cX6_inAll 19 = .ok (.aload_n 0, 1) := by decide +kernel
theorem dX6_inAll_20 : decode cX6_inAll 20 = .ok (.invokevirtual 54, 3) := by decide +kernel
theorem dX6_inAll_23 : decode cX6_inAll 23 = .ok (.if_icmp .ge 22, 3) := by decide +kernel
theorem dX6_inAll_26 : decode cX6_inAll 26 = .ok (.aload_n 0, 1) := by decide +kernel
theorem dX6_inAll_27 : decode cX6_inAll 27 = .ok (.getfield 15, 3) := by decide +kernel
theorem dX6_inAll_30 : decode cX6_inAll 30 = .ok (.iload_n 2, 1) := by decide +kernel
theorem dX6_inAll_31 : decode cX6_inAll 31 = .ok (.baload, 1) := by decide +kernel
theorem dX6_inAll_32 : decode cX6_inAll 32 = .ok (.ifCond .eq 7, 3) := by decide +kernel
theorem dX6_inAll_35 : decode cX6_inAll 35 = .ok (.iload_n 1, 1) := by decide +kernel
theorem dX6_inAll_36 : decode cX6_inAll 36 = .ok (.iload_n 2, 1) := by decide +kernel
theorem dX6_inAll_37 : decode cX6_inAll 37 = .ok (.iand, 1) := by decide +kernel
theorem dX6_inAll_38 : decode cX6_inAll 38 = .ok (.istore_n 1, 1) := by decide +kernel
theorem dX6_inAll_39 : decode cX6_inAll 39 = .ok (.iinc 2 1, 3) := by decide +kernel
theorem dX6_inAll_42 : decode cX6_inAll 42 = .ok (.goto (-24), 3) := by decide +kernel
theorem dX6_inAll_45 : decode cX6_inAll 45 = .ok (.iload_n 1, 1) := by decide +kernel
theorem dX6_inAll_46 : decode cX6_inAll 46 = .ok (.ireturn, 1) := by decide +kernel
theorem dX6_bestCell_0 : decode cX6_bestCell 0 = .ok (.iconst (-1), 1) := by decide +kernel
theorem dX6_bestCell_1 : decode cX6_bestCell 1 = .ok (.istore_n 1, 1) := by decide +kernel
theorem dX6_bestCell_2 : decode cX6_bestCell 2 = .ok (.sipush 129, 3) := by decide +kernel
theorem dX6_bestCell_5 : decode cX6_bestCell 5 = .ok (.istore_n 2, 1) := by decide +kernel
theorem dX6_bestCell_6 : decode cX6_bestCell 6 = .ok (.iconst 0, 1) := by decide +kernel
theorem dX6_bestCell_7 : decode cX6_bestCell 7 = .ok (.istore_n 3, 1) := by decide +kernel
theorem dX6_bestCell_8 : decode cX6_bestCell 8 = .ok (.aload_n 0, 1) := by decide +kernel
theorem dX6_bestCell_9 : decode cX6_bestCell 9 = .ok (.getfield 19, 3) := by decide +kernel
theorem dX6_bestCell_12 : decode cX6_bestCell 12 = .ok (.ifCond .le 33, 3) := by decide +kernel
theorem dX6_bestCell_15 : decode cX6_bestCell 15 = .ok (.iload_n 3, 1) := by decide +kernel
theorem dX6_bestCell_16 : decode cX6_bestCell 16 = .ok (.bipush 64, 2) := by decide +kernel
theorem dX6_bestCell_18 : decode cX6_bestCell 18 = .ok (.if_icmp .ge 27, 3) := by decide +kernel
theorem dX6_bestCell_21 : decode cX6_bestCell 21 = .ok (.aload_n 0, 1) := by decide +kernel
theorem dX6_bestCell_22 : decode cX6_bestCell 22 = .ok (.iload_n 3, 1) := by decide +kernel
theorem dX6_bestCell_23 : decode cX6_bestCell 23 = .ok (.invokevirtual 86, 3) := by decide +kernel
theorem dX6_bestCell_26 : decode cX6_bestCell 26 = .ok (.istore 4, 2) := by decide +kernel
theorem dX6_bestCell_28 : decode cX6_bestCell 28 = .ok (.iload 4, 2) := by decide +kernel
theorem dX6_bestCell_30 : decode cX6_bestCell 30 = .ok (.iload_n 2, 1) := by decide +kernel
theorem dX6_bestCell_31 : decode cX6_bestCell 31 = .ok (.if_icmp .ge 8, 3) := by decide +kernel
theorem dX6_bestCell_34 : decode cX6_bestCell 34 = .ok (.iload 4, 2) := by decide +kernel
theorem dX6_bestCell_36 : decode cX6_bestCell 36 = .ok (.istore_n 2, 1) := by decide +kernel
theorem dX6_bestCell_37 : decode cX6_bestCell 37 = .ok (.iload_n 3, 1) := by decide +kernel
theorem dX6_bestCell_38 : decode cX6_bestCell 38 = .ok (.istore_n 1, 1) := by decide +kernel
theorem dX6_bestCell_39 : decode cX6_bestCell 39 = .ok (.iinc 3 1, 3) := by decide +kernel
theorem dX6_bestCell_42 : decode cX6_bestCell 42 = .ok (.goto (-34), 3) := by decide +kernel
theorem dX6_bestCell_45 : decode cX6_bestCell 45 = .ok (.iload_n 1, 1) := by decide +kernel
theorem dX6_bestCell_46 : decode cX6_bestCell 46 = .ok (.ireturn, 1) := by decide +kernel
theorem dX6_mostAlike_0 : decode cX6_mostAlike 0 = .ok (.aload_n 0, 1) := by decide +kernel
theorem dX6_mostAlike_1 : decode cX6_mostAlike 1 = .ok (.iload_n 1, 1) := by decide +kernel
theorem dX6_mostAlike_2 : decode cX6_mostAlike 2 = .ok (.invokevirtual 89, 3) := by decide +kernel
theorem dX6_mostAlike_5 : decode cX6_mostAlike 5 = .ok (.iconst 0, 1) := by decide +kernel
theorem dX6_mostAlike_6 : decode cX6_mostAlike 6 = .ok (.istore_n 2, 1) := by decide +kernel
theorem dX6_mostAlike_7 : decode cX6_mostAlike 7 = .ok (.iload_n 2, 1) := by decide +kernel
theorem dX6_mostAlike_8 : decode cX6_mostAlike 8 = .ok (.bipush 23, 2) := by decide +kernel
theorem dX6_mostAlike_10 : decode cX6_mostAlike 10 = .ok (.if_icmp .gt 16, 3) := by decide +kernel
theorem dX6_mostAlike_13 : decode cX6_mostAlike 13 = .ok (.aload_n 0, 1) := by decide +kernel
theorem dX6_mostAlike_14 : decode cX6_mostAlike 14 = .ok (.getfield 26, 3) := by decide +kernel
theorem dX6_mostAlike_17 : decode cX6_mostAlike 17 = .ok (.iload_n 2, 1) := by decide +kernel
theorem dX6_mostAlike_18 : decode cX6_mostAlike 18 = .ok (.iconst 0, 1) := by decide +kernel
theorem dX6_mostAlike_19 : decode cX6_mostAlike 19 = .ok (.iastore, 1) := by decide +kernel
theorem dX6_mostAlike_20 : decode cX6_mostAlike 20 = .ok (.iinc 2 1, 3) := by decide +kernel
theorem dX6_mostAlike_23 : decode cX6_mostAlike 23 = .ok (.goto (-16), 3) := by decide +kernel
theorem dX6_mostAlike_26 : decode cX6_mostAlike 26 = .ok (.iconst 0, 1) := by decide +kernel
theorem dX6_mostAlike_27 : decode cX6_mostAlike 27 = .ok (.istore_n 2, 1) := by decide +kernel
theorem dX6_mostAlike_28 : decode cX6_mostAlike 28 = .ok (.iconst 0, 1) := by decide +kernel
theorem dX6_mostAlike_29 : decode cX6_mostAlike 29 = .ok (.istore_n 3, 1) := by decide +kernel
theorem dX6_mostAlike_30 : decode cX6_mostAlike 30 = .ok (.iload_n 3, 1) := by decide +kernel
theorem dX6_mostAlike_31 : decode cX6_mostAlike 31 = .ok (.aload_n 0, 1) := by decide +kernel
theorem dX6_mostAlike_32 : decode cX6_mostAlike 32 = .ok (.invokevirtual 54, 3) := by decide +kernel
theorem dX6_mostAlike_35 : decode cX6_mostAlike 35 = .ok (.if_icmp .ge 61, 3) := by decide +kernel
theorem dX6_mostAlike_38 : decode cX6_mostAlike 38 = .ok (.aload_n 0, 1) := by decide +kernel
theorem dX6_mostAlike_39 : decode cX6_mostAlike 39 = .ok (.getfield 23, 3) := by decide +kernel
theorem dX6_mostAlike_42 : decode cX6_mostAlike 42 = .ok (.iload_n 3, 1) := by decide +kernel
theorem dX6_mostAlike_43 : decode cX6_mostAlike 43 = .ok (.iaload, 1) := by decide +kernel
theorem dX6_mostAlike_44 : decode cX6_mostAlike 44 = .ok (.istore 4, 2) := by decide +kernel
theorem dX6_mostAlike_46 : decode cX6_mostAlike 46 = .ok (.aload_n 0, 1) := by decide +kernel
theorem dX6_mostAlike_47 : decode cX6_mostAlike 47 = .ok (.getfield 15, 3) := by decide +kernel
theorem dX6_mostAlike_50 : decode cX6_mostAlike 50 = .ok (.iload_n 3, 1) := by decide +kernel
theorem dX6_mostAlike_51 : decode cX6_mostAlike 51 = .ok (.baload, 1) := by decide +kernel
theorem dX6_mostAlike_52 : decode cX6_mostAlike 52 = .ok (.ifCond .eq 38, 3) := by decide +kernel
theorem dX6_mostAlike_55 : decode cX6_mostAlike 55 = .ok (.iload 4, 2) := by decide +kernel
theorem dX6_mostAlike_57 : decode cX6_mostAlike 57 = .ok (.ifCond .lt 33, 3) := by decide +kernel
theorem dX6_mostAlike_60 : decode cX6_mostAlike 60 = .ok (.iload 4, 2) := by decide +kernel
theorem dX6_mostAlike_62 : decode cX6_mostAlike 62 = .ok (.bipush 23, 2) := by decide +kernel
theorem dX6_mostAlike_64 : decode cX6_mostAlike 64 = .ok (.if_icmp .gt 26, 3) := by decide +kernel
theorem dX6_mostAlike_67 : decode cX6_mostAlike 67 = .ok (.aload_n 0, 1) := by decide +kernel
theorem dX6_mostAlike_68 : decode cX6_mostAlike 68 = .ok (.getfield 26, 3) := by decide +kernel
theorem dX6_mostAlike_71 : decode cX6_mostAlike 71 = .ok (.iload 4, 2) := by decide +kernel
theorem dX6_mostAlike_73 : decode cX6_mostAlike 73 = .ok (.dup2, 1) := by decide +kernel
theorem dX6_mostAlike_74 : decode cX6_mostAlike 74 = .ok (.iaload, 1) := by decide +kernel
theorem dX6_mostAlike_75 : decode cX6_mostAlike 75 = .ok (.iconst 1, 1) := by decide +kernel
theorem dX6_mostAlike_76 : decode cX6_mostAlike 76 = .ok (.iadd, 1) := by decide +kernel
theorem dX6_mostAlike_77 : decode cX6_mostAlike 77 = .ok (.iastore, 1) := by decide +kernel
theorem dX6_mostAlike_78 : decode cX6_mostAlike 78 = .ok (.iload_n 2, 1) := by decide +kernel
theorem dX6_mostAlike_79 : decode cX6_mostAlike 79 = .ok (.aload_n 0, 1) := by decide +kernel
theorem dX6_mostAlike_80 : decode cX6_mostAlike 80 = .ok (.getfield 26, 3) := by decide +kernel
theorem dX6_mostAlike_83 : decode cX6_mostAlike 83 = .ok (.iload 4, 2) := by decide +kernel
theorem dX6_mostAlike_85 : decode cX6_mostAlike 85 = .ok (.iaload, 1) := by decide +kernel
theorem dX6_mostAlike_86 : decode cX6_mostAlike 86 = .ok (.invokestatic 93, 3) := by decide +kernel
theorem dX6_mostAlike_89 : decode cX6_mostAlike 89 = .ok (.istore_n 2, 1) := by decide +kernel
theorem dX6_mostAlike_90 : decode cX6_mostAlike 90 = .ok (.iinc 3 1, 3) := by decide +kernel
theorem dX6_mostAlike_93 : decode cX6_mostAlike 93 = .ok (.goto (-63), 3) := by decide +kernel
theorem dX6_mostAlike_96 : decode cX6_mostAlike 96 = .ok (.iload_n 2, 1) := by decide +kernel
theorem dX6_mostAlike_97 : decode cX6_mostAlike 97 = .ok (.ireturn, 1) := by decide +kernel
theorem dX6_layLight_0 : decode cX6_layLight 0 = .ok (.aload_n 0, 1) := by decide +kernel
theorem dX6_layLight_1 : decode cX6_layLight 1 = .ok (.getfield 23, 3) := by decide +kernel
theorem dX6_layLight_4 : decode cX6_layLight 4 = .ok (.iconst 0, 1) := by decide +kernel
theorem dX6_layLight_5 : decode cX6_layLight 5 = .ok (.iconst 0, 1) := by decide +kernel
theorem dX6_layLight_6 : decode cX6_layLight 6 = .ok (.iastore, 1) := by decide +kernel
theorem dX6_layLight_7 : decode cX6_layLight 7 = .ok (.iconst 0, 1) := by decide +kernel
theorem dX6_layLight_8 : decode cX6_layLight 8 = .ok (.istore_n 2, 1) := by decide +kernel
theorem dX6_layLight_9 : decode cX6_layLight 9 = .ok (.iload_n 2, 1) := by decide +kernel
theorem dX6_layLight_10 : decode cX6_layLight 10 = .ok (.aload_n 0, 1) := by decide +kernel
theorem dX6_layLight_11 : decode cX6_layLight 11 = .ok (.getfield 29, 3) := by decide +kernel
theorem dX6_layLight_14 : decode cX6_layLight 14 = .ok (.getfield 37, 3) := by decide +kernel
theorem dX6_layLight_17 : decode cX6_layLight 17 = .ok (.if_icmp .ge 67, 3) := by decide +kernel
theorem dX6_layLight_20 : decode cX6_layLight 20 = .ok (.iconst 1, 1) := by decide +kernel
theorem dX6_layLight_21 : decode cX6_layLight 21 = .ok (.iload_n 2, 1) := by decide +kernel
theorem dX6_layLight_22 : decode cX6_layLight 22 = .ok (.ishl, 1) := by decide +kernel
theorem dX6_layLight_23 : decode cX6_layLight 23 = .ok (.istore_n 3, 1) := by decide +kernel
theorem dX6_layLight_24 : decode cX6_layLight 24 = .ok (.aload_n 0, 1) := by decide +kernel
theorem dX6_layLight_25 : decode cX6_layLight 25 = .ok (.getfield 33, 3) := by decide +kernel
theorem dX6_layLight_28 : decode cX6_layLight 28 = .ok (.getfield 99, 3) := by decide +kernel
theorem dX6_layLight_31 : decode cX6_layLight 31 = .ok (.iload_n 1, 1) := by decide +kernel
theorem dX6_layLight_32 : decode cX6_layLight 32 = .ok (.bipush 7, 2) := by decide +kernel
theorem dX6_layLight_34 : decode cX6_layLight 34 = .ok (.imul, 1) := by decide +kernel
theorem dX6_layLight_35 : decode cX6_layLight 35 = .ok (.iload_n 2, 1) := by decide +kernel
theorem dX6_layLight_36 : decode cX6_layLight 36 = .ok (.iadd, 1) := by decide +kernel
theorem dX6_layLight_37 : decode cX6_layLight 37 = .ok (.iaload, 1) := by decide +kernel
theorem dX6_layLight_38 : decode cX6_layLight 38 = .ok (.istore 4, 2) := by decide +kernel
theorem dX6_layLight_40 : decode cX6_layLight 40 = .ok (.iload_n 3, 1) := by decide +kernel
theorem dX6_layLight_41 : decode cX6_layLight 41 = .ok (.istore 5, 2) := by decide +kernel
theorem dX6_layLight_43 : decode cX6_layLight 43 = .ok (.iload 5, 2) := by decide +kernel
theorem dX6_layLight_45 : decode cX6_layLight 45 = .ok (.iconst 2, 1) := by decide +kernel
theorem dX6_layLight_46 : decode cX6_layLight 46 = .ok (.iload_n 3, 1) := by decide +kernel
theorem dX6_layLight_47 : decode cX6_layLight 47 = .ok (.imul, 1) := by decide +kernel
theorem dX6_layLight_48 : decode cX6_layLight 48 = .ok (.if_icmp .ge 30, 3) := by decide +kernel
theorem dX6_layLight_51 : decode cX6_layLight 51 = .ok (.aload_n 0, 1) := by decide +kernel
theorem dX6_layLight_52 : decode cX6_layLight 52 = .ok (.getfield 23, 3) := by decide +kernel
theorem dX6_layLight_55 : decode cX6_layLight 55 = .ok (.iload 5, 2) := by decide +kernel
theorem dX6_layLight_57 : decode cX6_layLight 57 = .ok (.aload_n 0, 1) := by decide +kernel
theorem dX6_layLight_58 : decode cX6_layLight 58 = .ok (.getfield 23, 3) := by decide +kernel
theorem dX6_layLight_61 : decode cX6_layLight 61 = .ok (.iload 5, 2) := by decide +kernel
theorem dX6_layLight_63 : decode cX6_layLight 63 = .ok (.iload_n 3, 1) := by decide +kernel
theorem dX6_layLight_64 : decode cX6_layLight 64 = .ok (.isub, 1) := by decide +kernel
theorem dX6_layLight_65 : decode cX6_layLight 65 = .ok (.iaload, 1) := by decide +kernel
theorem dX6_layLight_66 : decode cX6_layLight 66 = .ok (.iload 4, 2) := by decide +kernel
theorem dX6_layLight_68 : decode cX6_layLight 68 = .ok (.invokestatic 93, 3) := by decide +kernel
theorem dX6_layLight_71 : decode cX6_layLight 71 = .ok (.iastore, 1) := by decide +kernel
theorem dX6_layLight_72 : decode cX6_layLight 72 = .ok (.iinc 5 1, 3) := by decide +kernel
theorem dX6_layLight_75 : decode cX6_layLight 75 = .ok (.goto (-32), 3) := by decide +kernel
theorem dX6_layLight_78 : decode cX6_layLight 78 = .ok (.iinc 2 1, 3) := by decide +kernel
theorem dX6_layLight_81 : decode cX6_layLight 81 = .ok (.goto (-72), 3) := by decide +kernel
theorem dX6_layLight_84 : decode cX6_layLight 84 = .ok (.return_, 1) := by decide +kernel
theorem dX7_init_0 : decode cX7_init 0 = .ok (.aload_n 0, 1) := by decide +kernel
theorem dX7_init_1 : decode cX7_init 1 = .ok (.invokespecial 3, 3) := by decide +kernel
theorem dX7_init_4 : decode cX7_init 4 = .ok (.return_, 1) := by decide +kernel
theorem dX7_strength_0 : decode cX7_strength 0 = .ok (.aload_n 0, 1) := by decide +kernel
theorem dX7_strength_1 : decode cX7_strength 1 = .ok (.iload_n 1, 1) := by decide +kernel
theorem dX7_strength_2 : decode cX7_strength 2 = .ok (.iload_n 2, 1) := by decide +kernel
theorem dX7_strength_3 : decode cX7_strength 3 = .ok (.invokespecial 9, 3) := by decide +kernel
theorem dX7_strength_6 : decode cX7_strength 6 = .ok (.ifCond .le 7, 3) := by decide +kernel
theorem dX7_strength_9 : decode cX7_strength 9 = .ok (.iconst 1, 1) := by decide +kernel
theorem dX7_strength_10 : decode cX7_strength 10 = .ok (.goto 4, 3) := by decide +kernel
theorem dX7_strength_13 : decode cX7_strength 13 = .ok (.iconst 0, 1) := by decide +kernel
theorem dX7_strength_14 : decode cX7_strength 14 = .ok (.ireturn, 1) := by decide +kernel
theorem dX7_hours_0 : decode cX7_hours 0 = .ok (.bipush 12, 2) := by decide +kernel
theorem dX7_hours_2 : decode cX7_hours 2 = .ok (.ireturn, 1) := by decide +kernel
theorem dX8_init_0 : decode cX8_init 0 = .ok (.aload_n 0, 1) := by decide +kernel
theorem dX8_init_1 : decode cX8_init 1 = .ok (.invokespecial 3, 3) := by decide +kernel
theorem dX8_init_4 : decode cX8_init 4 = .ok (.aload_n 0, 1) := by decide +kernel
theorem dX8_init_5 : decode cX8_init 5 = .ok (.iconst 0, 1) := by decide +kernel
theorem dX8_init_6 : decode cX8_init 6 = .ok (.putfield 9, 3) := by decide +kernel
theorem dX8_init_9 : decode cX8_init 9 = .ok (.aload_n 0, 1) := by decide +kernel
theorem dX8_init_10 : decode cX8_init 10 = .ok (.iconst 0, 1) := by decide +kernel
theorem dX8_init_11 : decode cX8_init 11 = .ok (.putfield 15, 3) := by decide +kernel
theorem dX8_init_14 : decode cX8_init 14 = .ok (.aload_n 0, 1) := by decide +kernel
theorem dX8_init_15 : decode cX8_init 15 = .ok (.iconst 0, 1) := by decide +kernel
theorem dX8_init_16 : decode cX8_init 16 = .ok (.putfield 18, 3) := by decide +kernel
theorem dX8_init_19 : decode cX8_init 19 = .ok (.aload_n 0, 1) := by decide +kernel
theorem dX8_init_20 : decode cX8_init 20 = .ok (.bipush 7, 2) := by decide +kernel
theorem dX8_init_22 : decode cX8_init 22 = .ok (.newarray .int, 2) := by decide +kernel
theorem dX8_init_24 : decode cX8_init 24 = .ok (.putfield 21, 3) := by decide +kernel
theorem dX8_init_27 : decode cX8_init 27 = .ok (.aload_n 0, 1) := by decide +kernel
theorem dX8_init_28 : decode cX8_init 28 = .ok (.bipush 7, 2) := by decide +kernel
theorem dX8_init_30 : decode cX8_init 30 = .ok (.newarray .int, 2) := by decide +kernel
theorem dX8_init_32 : decode cX8_init 32 = .ok (.putfield 25, 3) := by decide +kernel
theorem dX8_init_35 : decode cX8_init 35 = .ok (.aload_n 0, 1) := by decide +kernel
theorem dX8_init_36 : decode cX8_init 36 = .ok (.bipush 7, 2) := by decide +kernel
theorem dX8_init_38 : decode cX8_init 38 = .ok (.newarray .int, 2) := by decide +kernel
theorem dX8_init_40 : decode cX8_init 40 = .ok (.putfield 28, 3) := by decide +kernel
theorem dX8_init_43 : decode cX8_init 43 = .ok (.aload_n 0, 1) := by decide +kernel
theorem dX8_init_44 : decode cX8_init 44 = .ok (.bipush 7, 2) := by decide +kernel
theorem dX8_init_46 : decode cX8_init 46 = .ok (.newarray .int, 2) := by decide +kernel
theorem dX8_init_48 : decode cX8_init 48 = .ok (.putfield 31, 3) := by decide +kernel
theorem dX8_init_51 : decode cX8_init 51 = .ok (.aload_n 0, 1) := by decide +kernel
theorem dX8_init_52 : decode cX8_init 52 = .ok (.bipush 7, 2) := by decide +kernel
theorem dX8_init_54 : decode cX8_init 54 = .ok (.newarray .int, 2) := by decide +kernel
theorem dX8_init_56 : decode cX8_init 56 = .ok (.putfield 34, 3) := by decide +kernel
theorem dX8_init_59 : decode cX8_init 59 = .ok (.aload_n 0, 1) := by decide +kernel
theorem dX8_init_60 : decode cX8_init 60 = .ok (.iconst 0, 1) := by decide +kernel
theorem dX8_init_61 : decode cX8_init 61 = .ok (.putfield 37, 3) := by decide +kernel
theorem dX8_init_64 : decode cX8_init 64 = .ok (.aload_n 0, 1) := by decide +kernel
theorem dX8_init_65 : decode cX8_init 65 = .ok (.bipush 6, 2) := by decide +kernel
theorem dX8_init_67 : decode cX8_init 67 = .ok (.newarray .int, 2) := by decide +kernel
theorem dX8_init_69 : decode cX8_init 69 = .ok (.putfield 40, 3) := by decide +kernel
theorem dX8_init_72 : decode cX8_init 72 = .ok (.aload_n 0, 1) := by decide +kernel
theorem dX8_init_73 : decode cX8_init 73 = .ok (.iconst 0, 1) := by decide +kernel
theorem dX8_init_74 : decode cX8_init 74 = .ok (.putfield 43, 3) := by decide +kernel
theorem dX8_init_77 : decode cX8_init 77 = .ok (.aload_n 0, 1) := by decide +kernel
theorem dX8_init_78 : decode cX8_init 78 = .ok (.bipush 6, 2) := by decide +kernel
theorem dX8_init_80 : decode cX8_init 80 = .ok (.newarray .int, 2) := by decide +kernel
theorem dX8_init_82 : decode cX8_init 82 = .ok (.putfield 46, 3) := by decide +kernel
theorem dX8_init_85 : decode cX8_init 85 = .ok (.aload_n 0, 1) := by decide +kernel
theorem dX8_init_86 : decode cX8_init 86 = .ok (.bipush 6, 2) := by decide +kernel
theorem dX8_init_88 : decode cX8_init 88 = .ok (.newarray .int, 2) := by decide +kernel
theorem dX8_init_90 : decode cX8_init 90 = .ok (.putfield 49, 3) := by decide +kernel
theorem dX8_init_93 : decode cX8_init 93 = .ok (.aload_n 0, 1) := by decide +kernel
theorem dX8_init_94 : decode cX8_init 94 = .ok (.bipush 6, 2) := by decide +kernel
theorem dX8_init_96 : decode cX8_init 96 = .ok (.newarray .int, 2) := by decide +kernel
theorem dX8_init_98 : decode cX8_init 98 = .ok (.putfield 52, 3) := by decide +kernel
theorem dX8_init_101 : decode cX8_init 101 = .ok (.aload_n 0, 1) := by decide +kernel
theorem dX8_init_102 : decode cX8_init 102 = .ok (.iconst 0, 1) := by decide +kernel
theorem dX8_init_103 : decode cX8_init 103 = .ok (.putfield 55, 3) := by decide +kernel
theorem dX8_init_106 : decode cX8_init 106 = .ok (.aload_n 0, 1) := by decide +kernel
theorem dX8_init_107 : decode cX8_init 107 = .ok (.bipush 56, 2) := by decide +kernel
theorem dX8_init_109 : decode cX8_init 109 = .ok (.newarray .int, 2) := by decide +kernel
theorem dX8_init_111 : decode cX8_init 111 = .ok (.putfield 58, 3) := by decide +kernel
theorem dX8_init_114 : decode cX8_init 114 = .ok (.aload_n 0, 1) := by decide +kernel
theorem dX8_init_115 : decode cX8_init 115 = .ok (.bipush 8, 2) := by decide +kernel
theorem dX8_init_117 : decode cX8_init 117 = .ok (.newarray .int, 2) := by decide +kernel
theorem dX8_init_119 : decode cX8_init 119 = .ok (.putfield 61, 3) := by decide +kernel
theorem dX8_init_122 : decode cX8_init 122 = .ok (.return_, 1) := by decide +kernel
