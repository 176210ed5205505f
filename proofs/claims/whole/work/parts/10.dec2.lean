theorem dX8_startAnew_0 : decode cX8_startAnew 0 = .ok (.aload_n 0, 1) := by decide +kernel
theorem dX8_startAnew_1 : decode cX8_startAnew 1 = .ok (.iload_n 1, 1) := by decide +kernel
theorem dX8_startAnew_2 : decode cX8_startAnew 2 = .ok (.putfield 9, 3) := by decide +kernel
theorem dX8_startAnew_5 : decode cX8_startAnew 5 = .ok (.aload_n 0, 1) := by decide +kernel
theorem dX8_startAnew_6 : decode cX8_startAnew 6 = .ok (.iconst 0, 1) := by decide +kernel
theorem dX8_startAnew_7 : decode cX8_startAnew 7 = .ok (.putfield 15, 3) := by decide +kernel
theorem dX8_startAnew_10 : decode cX8_startAnew 10 = .ok (.aload_n 0, 1) := by decide +kernel
theorem dX8_startAnew_11 : decode cX8_startAnew 11 = .ok (.iconst 0, 1) := by decide +kernel
theorem dX8_startAnew_12 : decode cX8_startAnew 12 = .ok (.putfield 18, 3) := by decide +kernel
theorem dX8_startAnew_15 : decode cX8_startAnew 15 = .ok (.aload_n 0, 1) := by decide +kernel
theorem dX8_startAnew_16 : decode cX8_startAnew 16 = .ok (.iconst 0, 1) := by decide +kernel
theorem dX8_startAnew_17 : decode cX8_startAnew 17 = .ok (.putfield 37, 3) := by decide +kernel
theorem dX8_startAnew_20 : decode cX8_startAnew 20 = .ok (.aload_n 0, 1) := by decide +kernel
theorem dX8_startAnew_21 : decode cX8_startAnew 21 = .ok (.iconst 0, 1) := by decide +kernel
theorem dX8_startAnew_22 : decode cX8_startAnew 22 = .ok (.putfield 43, 3) := by decide +kernel
theorem dX8_startAnew_25 : decode cX8_startAnew 25 = .ok (.aload_n 0, 1) := by decide +kernel
theorem dX8_startAnew_26 : decode cX8_startAnew 26 = .ok (.iconst 0, 1) := by decide +kernel
theorem dX8_startAnew_27 : decode cX8_startAnew 27 = .ok (.putfield 55, 3) := by decide +kernel
theorem dX8_startAnew_30 : decode cX8_startAnew 30 = .ok (.return_, 1) := by decide +kernel
theorem dX8_has_0 : decode cX8_has 0 = .ok (.iload_n 1, 1) := by decide +kernel
theorem dX8_has_1 : decode cX8_has 1 = .ok (.ifCond .lt 15, 3) := by decide +kernel
theorem dX8_has_4 : decode cX8_has 4 = .ok (.iload_n 1, 1) := by decide +kernel
theorem dX8_has_5 : decode cX8_has 5 = .ok (.aload_n 0, 1) := by decide +kernel
theorem dX8_has_6 : decode cX8_has 6 = .ok (.getfield 15, 3) := by decide +kernel
theorem dX8_has_9 : decode cX8_has 9 = .ok (.if_icmp .ge 7, 3) := by decide +kernel
theorem dX8_has_12 : decode cX8_has 12 = .ok (.iconst 1, 1) := by decide +kernel
theorem dX8_has_13 : decode cX8_has 13 = .ok (.goto 4, 3) := by decide +kernel
theorem dX8_has_16 : decode cX8_has 16 = .ok (.iconst 0, 1) := by decide +kernel
theorem dX8_has_17 : decode cX8_has 17 = .ok (.ireturn, 1) := by decide +kernel
theorem dX8_litAt_0 : decode cX8_litAt 0 = .ok (.aload_n 0, 1) := by decide +kernel
theorem dX8_litAt_1 : decode cX8_litAt 1 = .ok (.getfield 18, 3) := by decide +kernel
theorem dX8_litAt_4 : decode cX8_litAt 4 = .ok (.iload_n 1, 1) := by decide +kernel
theorem dX8_litAt_5 : decode cX8_litAt 5 = .ok (.ishr, 1) := by decide +kernel
theorem dX8_litAt_6 : decode cX8_litAt 6 = .ok (.iconst 1, 1) := by decide +kernel
theorem dX8_litAt_7 : decode cX8_litAt 7 = .ok (.iand, 1) := by decide +kernel
theorem dX8_litAt_8 : decode cX8_litAt 8 = .ok (.ireturn, 1) := by decide +kernel
theorem dX8_farFrom_0 : decode cX8_farFrom 0 = .ok (.aload_n 0, 1) := by decide +kernel
theorem dX8_farFrom_1 : decode cX8_farFrom 1 = .ok (.getfield 25, 3) := by decide +kernel
theorem dX8_farFrom_4 : decode cX8_farFrom 4 = .ok (.iload_n 1, 1) := by decide +kernel
theorem dX8_farFrom_5 : decode cX8_farFrom 5 = .ok (.iaload, 1) := by decide +kernel
theorem dX8_farFrom_6 : decode cX8_farFrom 6 = .ok (.iload_n 2, 1) := by decide +kernel
theorem dX8_farFrom_7 : decode cX8_farFrom 7 = .ok (.invokestatic 64, 3) := by decide +kernel
theorem dX8_farFrom_10 : decode cX8_farFrom 10 = .ok (.ireturn, 1) := by decide +kernel
theorem dX8_add_0 : decode cX8_add 0 = .ok (.aload_n 0, 1) := by decide +kernel
theorem dX8_add_1 : decode cX8_add 1 = .ok (.getfield 15, 3) := by decide +kernel
theorem dX8_add_4 : decode cX8_add 4 = .ok (.istore 6, 2) := by decide +kernel
theorem dX8_add_6 : decode cX8_add 6 = .ok (.iload 6, 2) := by decide +kernel
theorem dX8_add_8 : decode cX8_add 8 = .ok (.bipush 7, 2) := by decide +kernel
theorem dX8_add_10 : decode cX8_add 10 = .ok (.if_icmp .lt 5, 3) := by decide +kernel
theorem dX8_add_13 : decode cX8_add 13 = .ok (.iconst (-1), 1) := by decide +kernel
theorem dX8_add_14 : decode cX8_add 14 = .ok (.ireturn, 1) := by decide +kernel
theorem dX8_add_15 : decode cX8_add 15 = .ok (.aload_n 0, 1) := by decide +kernel
theorem dX8_add_16 : decode cX8_add 16 = .ok (.getfield 21, 3) := by decide +kernel
theorem dX8_add_19 : decode cX8_add 19 = .ok (.iload 6, 2) := by decide +kernel
theorem dX8_add_21 : decode cX8_add 21 = .ok (.iload_n 1, 1) := by decide +kernel
theorem dX8_add_22 : decode cX8_add 22 = .ok (.iastore, 1) := by decide +kernel
theorem dX8_add_23 : decode cX8_add 23 = .ok (.aload_n 0, 1) := by decide +kernel
theorem dX8_add_24 : decode cX8_add 24 = .ok (.getfield 25, 3) := by decide +kernel
theorem dX8_add_27 : decode cX8_add 27 = .ok (.iload 6, 2) := by decide +kernel
theorem dX8_add_29 : decode cX8_add 29 = .ok (.iload_n 2, 1) := by decide +kernel
theorem dX8_add_30 : decode cX8_add 30 = .ok (.iastore, 1) := by decide +kernel
theorem dX8_add_31 : decode cX8_add 31 = .ok (.aload_n 0, 1) := by decide +kernel
theorem dX8_add_32 : decode cX8_add 32 = .ok (.getfield 28, 3) := by decide +kernel
theorem dX8_add_35 : decode cX8_add 35 = .ok (.iload 6, 2) := by decide +kernel
theorem dX8_add_37 : decode cX8_add 37 = .ok (.iload_n 3, 1) := by decide +kernel
theorem dX8_add_38 : decode cX8_add 38 = .ok (.iastore, 1) := by decide +kernel
theorem dX8_add_39 : decode cX8_add 39 = .ok (.aload_n 0, 1) := by decide +kernel
theorem dX8_add_40 : decode cX8_add 40 = .ok (.getfield 31, 3) := by decide +kernel
theorem dX8_add_43 : decode cX8_add 43 = .ok (.iload 6, 2) := by decide +kernel
theorem dX8_add_45 : decode cX8_add 45 = .ok (.iload 4, 2) := by decide +kernel
theorem dX8_add_47 : decode cX8_add 47 = .ok (.iastore, 1) := by decide +kernel
theorem dX8_add_48 : decode cX8_add 48 = .ok (.aload_n 0, 1) := by decide +kernel
theorem dX8_add_49 : decode cX8_add 49 = .ok (.getfield 34, 3) := by decide +kernel
theorem dX8_add_52 : decode cX8_add 52 = .ok (.iload 6, 2) := by decide +kernel
theorem dX8_add_54 : decode cX8_add 54 = .ok (.iload 5, 2) := by decide +kernel
theorem dX8_add_56 : decode cX8_add 56 = .ok (.iastore, 1) := by decide +kernel
theorem dX8_add_57 : decode cX8_add 57 = .ok (.aload_n 0, 1) := by decide +kernel
theorem dX8_add_58 : decode cX8_add 58 = .ok (.aload_n 0, 1) := by decide +kernel
theorem dX8_add_59 : decode cX8_add 59 = .ok (.getfield 18, 3) := by decide +kernel
theorem dX8_add_62 : decode cX8_add 62 = .ok (.iconst 1, 1) := by decide +kernel
theorem dX8_add_63 : decode cX8_add 63 = .ok (.iload 6, 2) := by decide +kernel
theorem dX8_add_65 : decode cX8_add 65 = .ok (.ishl, 1) := by decide +kernel
theorem dX8_add_66 : decode cX8_add 66 = .ok (.ior, 1) := by decide +kernel
theorem dX8_add_67 : decode cX8_add 67 = .ok (.putfield 18, 3) := by decide +kernel
theorem dX8_add_70 : decode cX8_add 70 = .ok (.aload_n 0, 1) := by decide +kernel
theorem dX8_add_71 : decode cX8_add 71 = .ok (.iload 6, 2) := by decide +kernel
theorem dX8_add_73 : decode cX8_add 73 = .ok (.iconst 1, 1) := by decide +kernel
theorem dX8_add_74 : decode cX8_add 74 = .ok (.iadd, 1) := by decide +kernel
theorem dX8_add_75 : decode cX8_add 75 = .ok (.putfield 15, 3) := by decide +kernel
theorem dX8_add_78 : decode cX8_add 78 = .ok (.aload_n 0, 1) := by decide +kernel
theorem dX8_add_79 : decode cX8_add 79 = .ok (.iconst 0, 1) := by decide +kernel
theorem dX8_add_80 : decode cX8_add 80 = .ok (.putfield 55, 3) := by decide +kernel
theorem dX8_add_83 : decode cX8_add 83 = .ok (.iload 6, 2) := by decide +kernel
theorem dX8_add_85 : decode cX8_add 85 = .ok (.ireturn, 1) := by decide +kernel
theorem dX8_addReading_0 : decode cX8_addReading 0 = .ok (.aload_n 0, 1) := by decide +kernel
theorem dX8_addReading_1 : decode cX8_addReading 1 = .ok (.getfield 43, 3) := by decide +kernel
theorem dX8_addReading_4 : decode cX8_addReading 4 = .ok (.bipush 6, 2) := by decide +kernel
theorem dX8_addReading_6 : decode cX8_addReading 6 = .ok (.if_icmp .ge 43, 3) := by decide +kernel
theorem dX8_addReading_9 : decode cX8_addReading 9 = .ok (.aload_n 0, 1) := by decide +kernel
theorem dX8_addReading_10 : decode cX8_addReading 10 = .ok (.getfield 46, 3) := by decide +kernel
theorem dX8_addReading_13 : decode cX8_addReading 13 = .ok (.aload_n 0, 1) := by decide +kernel
theorem dX8_addReading_14 : decode cX8_addReading 14 = .ok (.getfield 43, 3) := by decide +kernel
theorem dX8_addReading_17 : decode cX8_addReading 17 = .ok (.iload_n 1, 1) := by decide +kernel
theorem dX8_addReading_18 : decode cX8_addReading 18 = .ok (.iastore, 1) := by decide +kernel
theorem dX8_addReading_19 : decode cX8_addReading 19 = .ok (.aload_n 0, 1) := by decide +kernel
theorem dX8_addReading_20 : decode cX8_addReading 20 = .ok (.getfield 49, 3) := by decide +kernel
theorem dX8_addReading_23 : decode cX8_addReading 23 = .ok (.aload_n 0, 1) := by decide +kernel
theorem dX8_addReading_24 : decode cX8_addReading 24 = .ok (.getfield 43, 3) := by decide +kernel
theorem dX8_addReading_27 : decode cX8_addReading 27 = .ok (.iload_n 2, 1) := by decide +kernel
theorem dX8_addReading_28 : decode cX8_addReading 28 = .ok (.iastore, 1) := by decide +kernel
theorem dX8_addReading_29 : decode cX8_addReading 29 = .ok (.aload_n 0, 1) := by decide +kernel
theorem dX8_addReading_30 : decode cX8_addReading 30 = .ok (.getfield 52, 3) := by decide +kernel
theorem dX8_addReading_33 : decode cX8_addReading 33 = .ok (.aload_n 0, 1) := by decide +kernel
theorem dX8_addReading_34 : decode cX8_addReading 34 = .ok (.getfield 43, 3) := by decide +kernel
theorem dX8_addReading_37 : decode cX8_addReading 37 = .ok (.iload_n 3, 1) := by decide +kernel
theorem dX8_addReading_38 : decode cX8_addReading 38 = .ok (.iastore, 1) := by decide +kernel
theorem dX8_addReading_39 : decode cX8_addReading 39 = .ok (.aload_n 0, 1) := by decide +kernel
theorem dX8_addReading_40 : decode cX8_addReading 40 = .ok (.dup, 1) := by decide +kernel
theorem dX8_addReading_41 : decode cX8_addReading 41 = .ok (.getfield 43, 3) := by decide +kernel
theorem dX8_addReading_44 : decode cX8_addReading 44 = .ok (.iconst 1, 1) := by decide +kernel
theorem dX8_addReading_45 : decode cX8_addReading 45 = .ok (.iadd, 1) := by decide +kernel
theorem dX8_addReading_46 : decode cX8_addReading 46 = .ok (.putfield 43, 3) := by decide +kernel
theorem dX8_addReading_49 : decode cX8_addReading 49 = .ok (.aload_n 0, 1) := by decide +kernel
theorem dX8_addReading_50 : decode cX8_addReading 50 = .ok (.getfield 43, 3) := by decide +kernel
theorem dX8_addReading_53 : decode cX8_addReading 53 = .ok (.ireturn, 1) := by decide +kernel
theorem dX8_remember_0 : decode cX8_remember 0 = .ok (.aload_n 0, 1) := by decide +kernel
theorem dX8_remember_1 : decode cX8_remember 1 = .ok (.getfield 55, 3) := by decide +kernel
theorem dX8_remember_4 : decode cX8_remember 4 = .ok (.bipush 8, 2) := by decide +kernel
theorem dX8_remember_6 : decode cX8_remember 6 = .ok (.if_icmp .lt 40, 3) := by decide +kernel
theorem dX8_remember_9 : decode cX8_remember 9 = .ok (.aload_n 0, 1) := by decide +kernel
theorem dX8_remember_10 : decode cX8_remember 10 = .ok (.getfield 58, 3) := by decide +kernel
theorem dX8_remember_13 : decode cX8_remember 13 = .ok (.bipush 7, 2) := by decide +kernel
theorem dX8_remember_15 : decode cX8_remember 15 = .ok (.aload_n 0, 1) := by decide +kernel
theorem dX8_remember_16 : decode cX8_remember 16 = .ok (.getfield 58, 3) := by decide +kernel
theorem dX8_remember_19 : decode cX8_remember 19 = .ok (.iconst 0, 1) := by decide +kernel
theorem dX8_remember_20 : decode cX8_remember 20 = .ok (.bipush 49, 2) := by decide +kernel
theorem dX8_remember_22 : decode cX8_remember 22 = .ok (.invokestatic 68, 3) := by decide +kernel
theorem dX8_remember_25 : decode cX8_remember 25 = .ok (.aload_n 0, 1) := by decide +kernel
theorem dX8_remember_26 : decode cX8_remember 26 = .ok (.getfield 61, 3) := by decide +kernel
theorem dX8_remember_29 : decode cX8_remember 29 = .ok (.iconst 1, 1) := by decide +kernel
theorem dX8_remember_30 : decode cX8_remember 30 = .ok (.aload_n 0, 1) := by decide +kernel
theorem dX8_remember_31 : decode cX8_remember 31 = .ok (.getfield 61, 3) := by decide +kernel
theorem dX8_remember_34 : decode cX8_remember 34 = .ok (.iconst 0, 1) := by decide +kernel
theorem dX8_remember_35 : decode cX8_remember 35 = .ok (.bipush 7, 2) := by decide +kernel
theorem dX8_remember_37 : decode cX8_remember 37 = .ok (.invokestatic 68, 3) := by decide +kernel
theorem dX8_remember_40 : decode cX8_remember 40 = .ok (.aload_n 0, 1) := by decide +kernel
theorem dX8_remember_41 : decode cX8_remember 41 = .ok (.bipush 7, 2) := by decide +kernel
theorem dX8_remember_43 : decode cX8_remember 43 = .ok (.putfield 55, 3) := by decide +kernel
theorem dX8_remember_46 : decode cX8_remember 46 = .ok (.aload_n 0, 1) := by decide +kernel
theorem dX8_remember_47 : decode cX8_remember 47 = .ok (.getfield 25, 3) := by decide +kernel
theorem dX8_remember_50 : decode cX8_remember 50 = .ok (.iconst 0, 1) := by decide +kernel
theorem dX8_remember_51 : decode cX8_remember 51 = .ok (.aload_n 0, 1) := by decide +kernel
theorem dX8_remember_52 : decode cX8_remember 52 = .ok (.getfield 58, 3) := by decide +kernel
theorem dX8_remember_55 : decode cX8_remember 55 = .ok (.aload_n 0, 1) := by decide +kernel
theorem dX8_remember_56 : decode cX8_remember 56 = .ok (.getfield 55, 3) := by decide +kernel
theorem dX8_remember_59 : decode cX8_remember 59 = .ok (.bipush 7, 2) := by decide +kernel
theorem dX8_remember_61 : decode cX8_remember 61 = .ok (.imul, 1) := by decide +kernel
theorem dX8_remember_62 : decode cX8_remember 62 = .ok (.bipush 7, 2) := by decide +kernel
theorem dX8_remember_64 : decode cX8_remember 64 = .ok (.invokestatic 68, 3) := by decide +kernel
theorem dX8_remember_67 : decode cX8_remember 67 = .ok (.aload_n 0, 1) := by decide +kernel
theorem dX8_remember_68 : decode cX8_remember 68 = .ok (.getfield 61, 3) := by decide +kernel
theorem dX8_remember_71 : decode cX8_remember 71 = .ok (.aload_n 0, 1) := by decide +kernel
theorem dX8_remember_72 : decode cX8_remember 72 = .ok (.getfield 55, 3) := by decide +kernel
theorem dX8_remember_75 : decode cX8_remember 75 = .ok (.aload_n 0, 1) := by decide +kernel
theorem dX8_remember_76 : decode cX8_remember 76 = .ok (.getfield 18, 3) := by decide +kernel
theorem dX8_remember_79 : decode cX8_remember 79 = .ok (.iastore, 1) := by decide +kernel
theorem dX8_remember_80 : decode cX8_remember 80 = .ok (.aload_n 0, 1) := by decide +kernel
theorem dX8_remember_81 : decode cX8_remember 81 = .ok (.dup, 1) := by decide +kernel
theorem dX8_remember_82 : decode cX8_remember 82 = .ok (.getfield 55, 3) := by decide +kernel
theorem dX8_remember_85 : decode cX8_remember 85 = .ok (.iconst 1, 1) := by decide +kernel
theorem dX8_remember_86 : decode cX8_remember 86 = .ok (.iadd, 1) := by decide +kernel
theorem dX8_remember_87 : decode cX8_remember 87 = .ok (.putfield 55, 3) := by decide +kernel
theorem dX8_remember_90 : decode cX8_remember 90 = .ok (.return_, 1) := by decide +kernel
theorem dX8_goBack_0 : decode cX8_goBack 0 = .ok (.aload_n 0, 1) := by decide +kernel
theorem dX8_goBack_1 : decode cX8_goBack 1 = .ok (.getfield 55, 3) := by decide +kernel
theorem dX8_goBack_4 : decode cX8_goBack 4 = .ok (.ifCond .le 47, 3) := by decide +kernel
theorem dX8_goBack_7 : decode cX8_goBack 7 = .ok (.aload_n 0, 1) := by decide +kernel
theorem dX8_goBack_8 : decode cX8_goBack 8 = .ok (.dup, 1) := by decide +kernel
theorem dX8_goBack_9 : decode cX8_goBack 9 = .ok (.getfield 55, 3) := by decide +kernel
theorem dX8_goBack_12 : decode cX8_goBack 12 = .ok (.iconst 1, 1) := by decide +kernel
theorem dX8_goBack_13 : decode cX8_goBack 13 = .ok (.isub, 1) := by decide +kernel
theorem dX8_goBack_14 : decode cX8_goBack 14 = .ok (.putfield 55, 3) := by decide +kernel
theorem dX8_goBack_17 : decode cX8_goBack 17 = .ok (.aload_n 0, 1) := by decide +kernel
theorem dX8_goBack_18 : decode cX8_goBack 18 = .ok (.getfield 58, 3) := by decide +kernel
theorem dX8_goBack_21 : decode cX8_goBack 21 = .ok (.aload_n 0, 1) := by decide +kernel
theorem dX8_goBack_22 : decode cX8_goBack 22 = .ok (.getfield 55, 3) := by decide +kernel
theorem dX8_goBack_25 : decode cX8_goBack 25 = .ok (.bipush 7, 2) := by decide +kernel
theorem dX8_goBack_27 : decode cX8_goBack 27 = .ok (.imul, 1) := by decide +kernel
theorem dX8_goBack_28 : decode cX8_goBack 28 = .ok (.aload_n 0, 1) := by decide +kernel
theorem dX8_goBack_29 : decode cX8_goBack 29 = .ok (.getfield 25, 3) := by decide +kernel
theorem dX8_goBack_32 : decode cX8_goBack 32 = .ok (.iconst 0, 1) := by decide +kernel
theorem dX8_goBack_33 : decode cX8_goBack 33 = .ok (.bipush 7, 2) := by decide +kernel
theorem dX8_goBack_35 : decode cX8_goBack 35 = .ok (.invokestatic 68, 3) := by decide +kernel
theorem dX8_goBack_38 : decode cX8_goBack 38 = .ok (.aload_n 0, 1) := by decide +kernel
theorem dX8_goBack_39 : decode cX8_goBack 39 = .ok (.aload_n 0, 1) := by decide +kernel
theorem dX8_goBack_40 : decode cX8_goBack 40 = .ok (.getfield 61, 3) := by decide +kernel
theorem dX8_goBack_43 : decode cX8_goBack 43 = .ok (.aload_n 0, 1) := by decide +kernel
theorem dX8_goBack_44 : decode cX8_goBack 44 = .ok (.getfield 55, 3) := by decide +kernel
theorem dX8_goBack_47 : decode cX8_goBack 47 = .ok (.iaload, 1) := by decide +kernel
theorem dX8_goBack_48 : decode cX8_goBack 48 = .ok (.putfield 18, 3) := by decide +kernel
theorem dX8_goBack_51 : decode cX8_goBack 51 = .ok (.return_, 1) := by decide +kernel
theorem dX8_takeFrom_0 : decode cX8_takeFrom 0 = .ok (.aload_n 0, 1) := by decide +kernel
theorem dX8_takeFrom_1 : decode cX8_takeFrom 1 = .ok (.aload_n 1, 1) := by decide +kernel
theorem dX8_takeFrom_2 : decode cX8_takeFrom 2 = .ok (.getfield 9, 3) := by decide +kernel
theorem dX8_takeFrom_5 : decode cX8_takeFrom 5 = .ok (.putfield 9, 3) := by decide +kernel
theorem dX8_takeFrom_8 : decode cX8_takeFrom 8 = .ok (.aload_n 0, 1) := by decide +kernel
theorem dX8_takeFrom_9 : decode cX8_takeFrom 9 = .ok (.aload_n 1, 1) := by decide +kernel
theorem dX8_takeFrom_10 : decode cX8_takeFrom 10 = .ok (.getfield 15, 3) := by decide +kernel
theorem dX8_takeFrom_13 : decode cX8_takeFrom 13 = .ok (.putfield 15, 3) := by decide +kernel
theorem dX8_takeFrom_16 : decode cX8_takeFrom 16 = .ok (.aload_n 0, 1) := by decide +kernel
theorem dX8_takeFrom_17 : decode cX8_takeFrom 17 = .ok (.aload_n 1, 1) := by decide +kernel
theorem dX8_takeFrom_18 : decode cX8_takeFrom 18 = .ok (.getfield 18, 3) := by decide +kernel
theorem dX8_takeFrom_21 : decode cX8_takeFrom 21 = .ok (.putfield 18, 3) := by decide +kernel
theorem dX8_takeFrom_24 : decode cX8_takeFrom 24 = .ok (.aload_n 0, 1) := by decide +kernel
theorem dX8_takeFrom_25 : decode cX8_takeFrom 25 = .ok (.aload_n 1, 1) := by decide +kernel
theorem dX8_takeFrom_26 : decode cX8_takeFrom 26 = .ok (.getfield 37, 3) := by decide +kernel
theorem dX8_takeFrom_29 : decode cX8_takeFrom 29 = .ok (.putfield 37, 3) := by decide +kernel
theorem dX8_takeFrom_32 : decode cX8_takeFrom 32 = .ok (.aload_n 0, 1) := by decide +kernel
theorem dX8_takeFrom_33 : decode cX8_takeFrom 33 = .ok (.aload_n 1, 1) := by decide +kernel
theorem dX8_takeFrom_34 : decode cX8_takeFrom 34 = .ok (.getfield 43, 3) := by decide +kernel
theorem dX8_takeFrom_37 : decode cX8_takeFrom 37 = .ok (.putfield 43, 3) := by decide +kernel
theorem dX8_takeFrom_40 : decode cX8_takeFrom 40 = .ok (.aload_n 0, 1) := by decide +kernel
theorem dX8_takeFrom_41 : decode cX8_takeFrom 41 = .ok (.aload_n 1, 1) := by decide +kernel
theorem dX8_takeFrom_42 : decode cX8_takeFrom 42 = .ok (.getfield 55, 3) := by decide +kernel
theorem dX8_takeFrom_45 : decode cX8_takeFrom 45 = .ok (.putfield 55, 3) := by decide +kernel
theorem dX8_takeFrom_48 : decode cX8_takeFrom 48 = .ok (.aload_n 1, 1) := by decide +kernel
theorem dX8_takeFrom_49 : decode cX8_takeFrom 49 = .ok (.getfield 21, 3) := by decide +kernel
theorem dX8_takeFrom_52 : decode cX8_takeFrom 52 = .ok (.iconst 0, 1) := by decide +kernel
theorem dX8_takeFrom_53 : decode cX8_takeFrom 53 = .ok (.aload_n 0, 1) := by decide +kernel
theorem dX8_takeFrom_54 : decode cX8_takeFrom 54 = .ok (.getfield 21, 3) := by decide +kernel
theorem dX8_takeFrom_57 : decode cX8_takeFrom 57 = .ok (.iconst 0, 1) := by decide +kernel
theorem dX8_takeFrom_58 : decode cX8_takeFrom 58 = .ok (.bipush 7, 2) := by decide +kernel
theorem dX8_takeFrom_60 : decode cX8_takeFrom 60 = .ok (.invokestatic 68, 3) := by decide +kernel
theorem dX8_takeFrom_63 : decode cX8_takeFrom 63 = .ok (.aload_n 1, 1) := by decide +kernel
theorem dX8_takeFrom_64 : decode cX8_takeFrom 64 = .ok (.getfield 25, 3) := by decide +kernel
theorem dX8_takeFrom_67 : decode cX8_takeFrom 67 = .ok (.iconst 0, 1) := by decide +kernel
theorem dX8_takeFrom_68 : decode cX8_takeFrom 68 = .ok (.aload_n 0, 1) := by decide +kernel
theorem dX8_takeFrom_69 : decode cX8_takeFrom 69 = .ok (.getfield 25, 3) := by decide +kernel
theorem dX8_takeFrom_72 : decode cX8_takeFrom 72 = .ok (.iconst 0, 1) := by decide +kernel
theorem dX8_takeFrom_73 : decode cX8_takeFrom 73 = .ok (.bipush 7, 2) := by decide +kernel
theorem dX8_takeFrom_75 : decode cX8_takeFrom 75 = .ok (.invokestatic 68, 3) := by decide +kernel
theorem dX8_takeFrom_78 : decode cX8_takeFrom 78 = .ok (.aload_n 1, 1) := by decide +kernel
theorem dX8_takeFrom_79 : decode cX8_takeFrom 79 = .ok (.getfield 28, 3) := by decide +kernel
theorem dX8_takeFrom_82 : decode cX8_takeFrom 82 = .ok (.iconst 0, 1) := by decide +kernel
theorem dX8_takeFrom_83 : decode cX8_takeFrom 83 = .ok (.aload_n 0, 1) := by decide +kernel
theorem dX8_takeFrom_84 : decode cX8_takeFrom 84 = .ok (.getfield 28, 3) := by decide +kernel
theorem dX8_takeFrom_87 : decode cX8_takeFrom 87 = .ok (.iconst 0, 1) := by decide +kernel
theorem dX8_takeFrom_88 : decode cX8_takeFrom 88 = .ok (.bipush 7, 2) := by decide +kernel
theorem dX8_takeFrom_90 : decode cX8_takeFrom 90 = .ok (.invokestatic 68, 3) := by decide +kernel
theorem dX8_takeFrom_93 : decode cX8_takeFrom 93 = .ok (.aload_n 1, 1) := by decide +kernel
theorem dX8_takeFrom_94 : decode cX8_takeFrom 94 = .ok (.getfield 31, 3) := by decide +kernel
theorem dX8_takeFrom_97 : decode cX8_takeFrom 97 = .ok (.iconst 0, 1) := by decide +kernel
theorem dX8_takeFrom_98 : decode cX8_takeFrom 98 = .ok (.aload_n 0, 1) := by decide +kernel
theorem dX8_takeFrom_99 : decode cX8_takeFrom 99 = .ok (.getfield 31, 3) := by decide +kernel
theorem dX8_takeFrom_102 : decode cX8_takeFrom 102 = .ok (.iconst 0, 1) := by decide +kernel
theorem dX8_takeFrom_103 : decode cX8_takeFrom 103 = .ok (.bipush 7, 2) := by decide +kernel
theorem dX8_takeFrom_105 : decode cX8_takeFrom 105 = .ok (.invokestatic 68, 3) := by decide +kernel
theorem dX8_takeFrom_108 : decode cX8_takeFrom 108 = .ok (.aload_n 1, 1) := by decide +kernel
theorem dX8_takeFrom_109 : decode cX8_takeFrom 109 = .ok (.getfield 34, 3) := by decide +kernel
theorem dX8_takeFrom_112 : decode cX8_takeFrom 112 = .ok (.iconst 0, 1) := by decide +kernel
theorem dX8_takeFrom_113 : decode cX8_takeFrom 113 = .ok (.aload_n 0, 1) := by decide +kernel
theorem dX8_takeFrom_114 : decode cX8_takeFrom 114 = .ok (.getfield 34, 3) := by decide +kernel
theorem dX8_takeFrom_117 : decode cX8_takeFrom 117 = .ok (.iconst 0, 1) := by decide +kernel
theorem dX8_takeFrom_118 : decode cX8_takeFrom 118 = .ok (.bipush 7, 2) := by decide +kernel
theorem dX8_takeFrom_120 : decode cX8_takeFrom 120 = .ok (.invokestatic 68, 3) := by decide +kernel
theorem dX8_takeFrom_123 : decode cX8_takeFrom 123 = .ok (.aload_n 1, 1) := by decide +kernel
theorem dX8_takeFrom_124 : decode cX8_takeFrom 124 = .ok (.getfield 40, 3) := by decide +kernel
theorem dX8_takeFrom_127 : decode cX8_takeFrom 127 = .ok (.iconst 0, 1) := by decide +kernel
theorem dX8_takeFrom_128 : decode cX8_takeFrom 128 = .ok (.aload_n 0, 1) := by decide +kernel
theorem dX8_takeFrom_129 : decode cX8_takeFrom 129 = .ok (.getfield 40, 3) := by decide +kernel
theorem dX8_takeFrom_132 : decode cX8_takeFrom 132 = .ok (.iconst 0, 1) := by decide +kernel
theorem dX8_takeFrom_133 : decode cX8_takeFrom 133 = .ok (.bipush 6, 2) := by decide +kernel
theorem dX8_takeFrom_135 : decode cX8_takeFrom 135 = .ok (.invokestatic 68, 3) := by decide +kernel
theorem dX8_takeFrom_138 : decode cX8_takeFrom 138 = .ok (.aload_n 1, 1) := by decide +kernel
theorem dX8_takeFrom_139 : decode cX8_takeFrom 139 = .ok (.getfield 46, 3) := by decide +kernel
theorem dX8_takeFrom_142 : decode cX8_takeFrom 142 = .ok (.iconst 0, 1) := by decide +kernel
theorem dX8_takeFrom_143 : decode cX8_takeFrom 143 = .ok (.aload_n 0, 1) := by decide +kernel
theorem dX8_takeFrom_144 : decode cX8_takeFrom 144 = .ok (.getfield 46, 3) := by decide +kernel
theorem dX8_takeFrom_147 : decode cX8_takeFrom 147 = .ok (.iconst 0, 1) := by decide +kernel
theorem dX8_takeFrom_148 : decode cX8_takeFrom 148 = .ok (.bipush 6, 2) := by decide +kernel
theorem dX8_takeFrom_150 : decode cX8_takeFrom 150 = .ok (.invokestatic 68, 3) := by decide +kernel
theorem dX8_takeFrom_153 : decode cX8_takeFrom 153 = .ok (.aload_n 1, 1) := by decide +kernel
theorem dX8_takeFrom_154 : decode cX8_takeFrom 154 = .ok (.getfield 49, 3) := by decide +kernel
theorem dX8_takeFrom_157 : decode cX8_takeFrom 157 = .ok (.iconst 0, 1) := by decide +kernel
theorem dX8_takeFrom_158 : decode cX8_takeFrom 158 = .ok (.aload_n 0, 1) := by decide +kernel
theorem dX8_takeFrom_159 : decode cX8_takeFrom 159 = .ok (.getfield 49, 3) := by decide +kernel
theorem dX8_takeFrom_162 : decode cX8_takeFrom 162 = .ok (.iconst 0, 1) := by decide +kernel
theorem dX8_takeFrom_163 : decode cX8_takeFrom 163 = .ok (.bipush 6, 2) := by decide +kernel
theorem dX8_takeFrom_165 : decode cX8_takeFrom 165 = .ok (.invokestatic 68, 3) := by decide +kernel
theorem dX8_takeFrom_168 : decode cX8_takeFrom 168 = .ok (.aload_n 1, 1) := by decide +kernel
theorem dX8_takeFrom_169 : decode cX8_takeFrom 169 = .ok (.getfield 52, 3) := by decide +kernel
theorem dX8_takeFrom_172 : decode cX8_takeFrom 172 = .ok (.iconst 0, 1) := by decide +kernel
theorem dX8_takeFrom_173 : decode cX8_takeFrom 173 = .ok (.aload_n 0, 1) := by decide +kernel
theorem dX8_takeFrom_174 : decode cX8_takeFrom 174 = .ok (.getfield 52, 3) := by decide +kernel
theorem dX8_takeFrom_177 : decode cX8_takeFrom 177 = .ok (.iconst 0, 1) := by decide +kernel
theorem dX8_takeFrom_178 : decode cX8_takeFrom 178 = .ok (.bipush 6, 2) := by decide +kernel
theorem dX8_takeFrom_180 : decode cX8_takeFrom 180 = .ok (.invokestatic 68, 3) := by decide +kernel
theorem dX8_takeFrom_183 : decode cX8_takeFrom 183 = .ok (.aload_n 1, 1) := by decide +kernel
theorem dX8_takeFrom_184 : decode cX8_takeFrom 184 = .ok (.getfield 58, 3) := by decide +kernel
theorem dX8_takeFrom_187 : decode cX8_takeFrom 187 = .ok (.iconst 0, 1) := by decide +kernel
theorem dX8_takeFrom_188 : decode cX8_takeFrom 188 = .ok (.aload_n 0, 1) := by decide +kernel
theorem dX8_takeFrom_189 : decode cX8_takeFrom 189 = .ok (.getfield 58, 3) := by decide +kernel
theorem dX8_takeFrom_192 : decode cX8_takeFrom 192 = .ok (.iconst 0, 1) := by decide +kernel
theorem dX8_takeFrom_193 : decode cX8_takeFrom 193 = .ok (.bipush 56, 2) := by decide +kernel
theorem dX8_takeFrom_195 : decode cX8_takeFrom 195 = .ok (.invokestatic 68, 3) := by decide +kernel
theorem dX8_takeFrom_198 : decode cX8_takeFrom 198 = .ok (.aload_n 1, 1) := by decide +kernel
theorem dX8_takeFrom_199 : decode cX8_takeFrom 199 = .ok (.getfield 61, 3) := by decide +kernel
theorem dX8_takeFrom_202 : decode cX8_takeFrom 202 = .ok (.iconst 0, 1) := by decide +kernel
theorem dX8_takeFrom_203 : decode cX8_takeFrom 203 = .ok (.aload_n 0, 1) := by decide +kernel
theorem dX8_takeFrom_204 : decode cX8_takeFrom 204 = .ok (.getfield 61, 3) := by decide +kernel
theorem dX8_takeFrom_207 : decode cX8_takeFrom 207 = .ok (.iconst 0, 1) := by decide +kernel
theorem dX8_takeFrom_208 : decode cX8_takeFrom 208 = .ok (.bipush 8, 2) := by decide +kernel
theorem dX8_takeFrom_210 : decode cX8_takeFrom 210 = .ok (.invokestatic 68, 3) := by decide +kernel
theorem dX8_takeFrom_213 : decode cX8_takeFrom 213 = .ok (.return_, 1) := by decide +kernel
theorem dX8_mix_0 : decode cX8_mix 0 = .ok (.lload_n 1, 1) := by decide +kernel
theorem dX8_mix_1 : decode cX8_mix 1 = .ok (.lstore_n 3, 1) := by decide +kernel
theorem dX8_mix_2 : decode cX8_mix 2 = .ok (.iconst 0, 1) := by decide +kernel
theorem dX8_mix_3 : decode cX8_mix 3 = .ok (.istore 5, 2) := by decide +kernel
theorem dX8_mix_5 : decode cX8_mix 5 = .ok (.iload 5, 2) := by decide +kernel
theorem dX8_mix_7 : decode cX8_mix 7 = .ok (.aload_n 0, 1) := by decide +kernel
theorem dX8_mix_8 : decode cX8_mix 8 = .ok (.getfield 15, 3) := by decide +kernel
theorem dX8_mix_11 : decode cX8_mix 11 = .ok (.if_icmp .ge 84, 3) := by decide +kernel
theorem dX8_mix_14 : decode cX8_mix 14 = .ok (.ldc2_w 74, 3) := by decide +kernel
theorem dX8_mix_17 : decode cX8_mix 17 = .ok (.lload_n 3, 1) := by decide +kernel
theorem dX8_mix_18 : decode cX8_mix 18 = .ok (.lmul, 1) := by decide +kernel
theorem dX8_mix_19 : decode cX8_mix 19 = .ok (.aload_n 0, 1) := by decide +kernel
theorem dX8_mix_20 : decode cX8_mix 20 = .ok (.getfield 21, 3) := by decide +kernel
theorem dX8_mix_23 : decode cX8_mix 23 = .ok (.iload 5, 2) := by decide +kernel
theorem dX8_mix_25 : decode cX8_mix 25 = .ok (.iaload, 1) := by decide +kernel
theorem dX8_mix_26 : decode cX8_mix 26 = .ok (.i2l, 1) := by decide +kernel
theorem dX8_mix_27 : decode cX8_mix 27 = .ok (.ladd, 1) := by decide +kernel
theorem dX8_mix_28 : decode cX8_mix 28 = .ok (.lstore_n 3, 1) := by decide +kernel
theorem dX8_mix_29 : decode cX8_mix 29 = .ok (.ldc2_w 74, 3) := by decide +kernel
theorem dX8_mix_32 : decode cX8_mix 32 = .ok (.lload_n 3, 1) := by decide +kernel
theorem dX8_mix_33 : decode cX8_mix 33 = .ok (.lmul, 1) := by decide +kernel
theorem dX8_mix_34 : decode cX8_mix 34 = .ok (.aload_n 0, 1) := by decide +kernel
theorem dX8_mix_35 : decode cX8_mix 35 = .ok (.getfield 25, 3) := by decide +kernel
theorem dX8_mix_38 : decode cX8_mix 38 = .ok (.iload 5, 2) := by decide +kernel
theorem dX8_mix_40 : decode cX8_mix 40 = .ok (.iaload, 1) := by decide +kernel
theorem dX8_mix_41 : decode cX8_mix 41 = .ok (.i2l, 1) := by decide +kernel
theorem dX8_mix_42 : decode cX8_mix 42 = .ok (.ladd, 1) := by decide +kernel
theorem dX8_mix_43 : decode cX8_mix 43 = .ok (.lstore_n 3, 1) := by decide +kernel
theorem dX8_mix_44 : decode cX8_mix 44 = .ok (.ldc2_w 74, 3) := by decide +kernel
theorem dX8_mix_47 : decode cX8_mix 47 = .ok (.lload_n 3, 1) := by decide +kernel
theorem dX8_mix_48 : decode cX8_mix 48 = .ok (.lmul, 1) := by decide +kernel
theorem dX8_mix_49 : decode cX8_mix 49 = .ok (.aload_n 0, 1) := by decide +kernel
theorem dX8_mix_50 : decode cX8_mix 50 = .ok (.getfield 28, 3) := by decide +kernel
theorem dX8_mix_53 : decode cX8_mix 53 = .ok (.iload 5, 2) := by decide +kernel
theorem dX8_mix_55 : decode cX8_mix 55 = .ok (.iaload, 1) := by decide +kernel
theorem dX8_mix_56 : decode cX8_mix 56 = .ok (.i2l, 1) := by decide +kernel
theorem dX8_mix_57 : decode cX8_mix 57 = .ok (.ladd, 1) := by decide +kernel
theorem dX8_mix_58 : decode cX8_mix 58 = .ok (.lstore_n 3, 1) := by decide +kernel
theorem dX8_mix_59 : decode cX8_mix 59 = .ok (.ldc2_w 74, 3) := by decide +kernel
theorem dX8_mix_62 : decode cX8_mix 62 = .ok (.lload_n 3, 1) := by decide +kernel
theorem dX8_mix_63 : decode cX8_mix 63 = .ok (.lmul, 1) := by decide +kernel
theorem dX8_mix_64 : decode cX8_mix 64 = .ok (.aload_n 0, 1) := by decide +kernel
theorem dX8_mix_65 : decode cX8_mix 65 = .ok (.getfield 31, 3) := by decide +kernel
theorem dX8_mix_68 : decode cX8_mix 68 = .ok (.iload 5, 2) := by decide +kernel
theorem dX8_mix_70 : decode cX8_mix 70 = .ok (.iaload, 1) := by decide +kernel
theorem dX8_mix_71 : decode cX8_mix 71 = .ok (.i2l, 1) := by decide +kernel
theorem dX8_mix_72 : decode cX8_mix 72 = .ok (.ladd, 1) := by decide +kernel
theorem dX8_mix_73 : decode cX8_mix 73 = .ok (.lstore_n 3, 1) := by decide +kernel
theorem dX8_mix_74 : decode cX8_mix 74 = .ok (.ldc2_w 74, 3) := by decide +kernel
theorem dX8_mix_77 : decode cX8_mix 77 = .ok (.lload_n 3, 1) := by decide +kernel
theorem dX8_mix_78 : decode cX8_mix 78 = .ok (.lmul, 1) := by decide +kernel
theorem dX8_mix_79 : decode cX8_mix 79 = .ok (.aload_n 0, 1) := by decide +kernel
theorem dX8_mix_80 : decode cX8_mix 80 = .ok (.getfield 34, 3) := by decide +kernel
theorem dX8_mix_83 : decode cX8_mix 83 = .ok (.iload 5, 2) := by decide +kernel
theorem dX8_mix_85 : decode cX8_mix 85 = .ok (.iaload, 1) := by decide +kernel
theorem dX8_mix_86 : decode cX8_mix 86 = .ok (.i2l, 1) := by decide +kernel
theorem dX8_mix_87 : decode cX8_mix 87 = .ok (.ladd, 1) := by decide +kernel
theorem dX8_mix_88 : decode cX8_mix 88 = .ok (.lstore_n 3, 1) := by decide +kernel
theorem dX8_mix_89 : decode cX8_mix 89 = .ok (.iinc 5 1, 3) := by decide +kernel
theorem dX8_mix_92 : decode cX8_mix 92 = .ok (.goto (-87), 3) := by decide +kernel
theorem dX8_mix_95 : decode cX8_mix 95 = .ok (.iconst 0, 1) := by decide +kernel
theorem dX8_mix_96 : decode cX8_mix 96 = .ok (.istore 5, 2) := by decide +kernel
theorem dX8_mix_98 : decode cX8_mix 98 = .ok (.iload 5, 2) := by decide +kernel
theorem dX8_mix_100 : decode cX8_mix 100 = .ok (.aload_n 0, 1) := by decide +kernel
theorem dX8_mix_101 : decode cX8_mix 101 = .ok (.getfield 37, 3) := by decide +kernel
theorem dX8_mix_104 : decode cX8_mix 104 = .ok (.if_icmp .ge 24, 3) := by decide +kernel
theorem dX8_mix_107 : decode cX8_mix 107 = .ok (.ldc2_w 74, 3) := by decide +kernel
theorem dX8_mix_110 : decode cX8_mix 110 = .ok (.lload_n 3, 1) := by decide +kernel
theorem dX8_mix_111 : decode cX8_mix 111 = .ok (.lmul, 1) := by decide +kernel
theorem dX8_mix_112 : decode cX8_mix 112 = .ok (.aload_n 0, 1) := by decide +kernel
theorem dX8_mix_113 : decode cX8_mix 113 = .ok (.getfield 40, 3) := by decide +kernel
theorem dX8_mix_116 : decode cX8_mix 116 = .ok (.iload 5, 2) := by decide +kernel
theorem dX8_mix_118 : decode cX8_mix 118 = .ok (.iaload, 1) := by decide +kernel
theorem dX8_mix_119 : decode cX8_mix 119 = .ok (.i2l, 1) := by decide +kernel
theorem dX8_mix_120 : decode cX8_mix 120 = .ok (.ladd, 1) := by decide +kernel
theorem dX8_mix_121 : decode cX8_mix 121 = .ok (.lstore_n 3, 1) := by decide +kernel
theorem dX8_mix_122 : decode cX8_mix 122 = .ok (.iinc 5 1, 3) := by decide +kernel
theorem dX8_mix_125 : decode cX8_mix 125 = .ok (.goto (-27), 3) := by decide +kernel
theorem dX8_mix_128 : decode cX8_mix 128 = .ok (.iconst 0, 1) := by decide +kernel
theorem dX8_mix_129 : decode cX8_mix 129 = .ok (.istore 5, 2) := by decide +kernel
theorem dX8_mix_131 : decode cX8_mix 131 = .ok (.iload 5, 2) := by decide +kernel
theorem dX8_mix_133 : decode cX8_mix 133 = .ok (.aload_n 0, 1) := by decide +kernel
theorem dX8_mix_134 : decode cX8_mix 134 = .ok (.getfield 43, 3) := by decide +kernel
theorem dX8_mix_137 : decode cX8_mix 137 = .ok (.if_icmp .ge 54, 3) := by decide +kernel
theorem dX8_mix_140 : decode cX8_mix 140 = .ok (.ldc2_w 74, 3) := by decide +kernel
theorem dX8_mix_143 : decode cX8_mix 143 = .ok (.lload_n 3, 1) := by decide +kernel
theorem dX8_mix_144 : decode cX8_mix 144 = .ok (.lmul, 1) := by decide +kernel
theorem dX8_mix_145 : decode cX8_mix 145 = .ok (.aload_n 0, 1) := by decide +kernel
theorem dX8_mix_146 : decode cX8_mix 146 = .ok (.getfield 46, 3) := by decide +kernel
theorem dX8_mix_149 : decode cX8_mix 149 = .ok (.iload 5, 2) := by decide +kernel
theorem dX8_mix_151 : decode cX8_mix 151 = .ok (.iaload, 1) := by decide +kernel
theorem dX8_mix_152 : decode cX8_mix 152 = .ok (.i2l, 1) := by decide +kernel
theorem dX8_mix_153 : decode cX8_mix 153 = .ok (.ladd, 1) := by decide +kernel
theorem dX8_mix_154 : decode cX8_mix 154 = .ok (.lstore_n 3, 1) := by decide +kernel
theorem dX8_mix_155 : decode cX8_mix 155 = .ok (.ldc2_w 74, 3) := by decide +kernel
theorem dX8_mix_158 : decode cX8_mix 158 = .ok (.lload_n 3, 1) := by decide +kernel
theorem dX8_mix_159 : decode cX8_mix 159 = .ok (.lmul, 1) := by decide +kernel
theorem dX8_mix_160 : decode cX8_mix 160 = .ok (.aload_n 0, 1) := by decide +kernel
theorem dX8_mix_161 : decode cX8_mix 161 = .ok (.getfield 49, 3) := by decide +kernel
theorem dX8_mix_164 : decode cX8_mix 164 = .ok (.iload 5, 2) := by decide +kernel
theorem dX8_mix_166 : decode cX8_mix 166 = .ok (.iaload, 1) := by decide +kernel
theorem dX8_mix_167 : decode cX8_mix 167 = .ok (.i2l, 1) := by decide +kernel
theorem dX8_mix_168 : decode cX8_mix 168 = .ok (.ladd, 1) := by decide +kernel
theorem dX8_mix_169 : decode cX8_mix 169 = .ok (.lstore_n 3, 1) := by decide +kernel
theorem dX8_mix_170 : decode cX8_mix 170 = .ok (.ldc2_w 74, 3) := by decide +kernel
theorem dX8_mix_173 : decode cX8_mix 173 = .ok (.lload_n 3, 1) := by decide +kernel
theorem dX8_mix_174 : decode cX8_mix 174 = .ok (.lmul, 1) := by decide +kernel
theorem dX8_mix_175 : decode cX8_mix 175 = .ok (.aload_n 0, 1) := by decide +kernel
theorem dX8_mix_176 : decode cX8_mix 176 = .ok (.getfield 52, 3) := by decide +kernel
theorem dX8_mix_179 : decode cX8_mix 179 = .ok (.iload 5, 2) := by decide +kernel
theorem dX8_mix_181 : decode cX8_mix 181 = .ok (.iaload, 1) := by decide +kernel
theorem dX8_mix_182 : decode cX8_mix 182 = .ok (.i2l, 1) := by decide +kernel
theorem dX8_mix_183 : decode cX8_mix 183 = .ok (.ladd, 1) := by decide +kernel
theorem dX8_mix_184 : decode cX8_mix 184 = .ok (.lstore_n 3, 1) := by decide +kernel
theorem dX8_mix_185 : decode cX8_mix 185 = .ok (.iinc 5 1, 3) := by decide +kernel
theorem dX8_mix_188 : decode cX8_mix 188 = .ok (.goto (-57), 3) := by decide +kernel
theorem dX8_mix_191 : decode cX8_mix 191 = .ok (.lload_n 3, 1) := by decide +kernel
theorem dX8_mix_192 : decode cX8_mix 192 = .ok (.lreturn, 1) := by decide +kernel
theorem dX9_init_0 : decode cX9_init 0 = .ok (.aload_n 0, 1) := by decide +kernel
theorem dX9_init_1 : decode cX9_init 1 = .ok (.invokespecial 3, 3) := by decide +kernel
theorem dX9_init_4 : decode cX9_init 4 = .ok (.aload_n 0, 1) := by decide +kernel
theorem dX9_init_5 : decode cX9_init 5 = .ok (.bipush 64, 2) := by decide +kernel
theorem dX9_init_7 : decode cX9_init 7 = .ok (.newarray .int, 2) := by decide +kernel
theorem dX9_init_9 : decode cX9_init 9 = .ok (.putfield 9, 3) := by decide +kernel
theorem dX9_init_12 : decode cX9_init 12 = .ok (.aload_n 0, 1) := by decide +kernel
theorem dX9_init_13 : decode cX9_init 13 = .ok (.bipush 64, 2) := by decide +kernel
theorem dX9_init_15 : decode cX9_init 15 = .ok (.newarray .boolean, 2) := by decide +kernel
theorem dX9_init_17 : decode cX9_init 17 = .ok (.putfield 15, 3) := by decide +kernel
theorem dX9_init_20 : decode cX9_init 20 = .ok (.aload_n 0, 1) := by decide +kernel
theorem dX9_init_21 : decode cX9_init 21 = .ok (.bipush 64, 2) := by decide +kernel
theorem dX9_init_23 : decode cX9_init 23 = .ok (.newarray .int, 2) := by decide +kernel
theorem dX9_init_25 : decode cX9_init 25 = .ok (.putfield 19, 3) := by decide +kernel
theorem dX9_init_28 : decode cX9_init 28 = .ok (.aload_n 0, 1) := by decide +kernel
theorem dX9_init_29 : decode cX9_init 29 = .ok (.aload_n 1, 1) := by decide +kernel
theorem dX9_init_30 : decode cX9_init 30 = .ok (.putfield 22, 3) := by decide +kernel
theorem dX9_init_33 : decode cX9_init 33 = .ok (.aload_n 0, 1) := by decide +kernel
theorem dX9_init_34 : decode cX9_init 34 = .ok (.aload_n 2, 1) := by decide +kernel
theorem dX9_init_35 : decode cX9_init 35 = .ok (.putfield 26, 3) := by decide +kernel
theorem dX9_init_38 : decode cX9_init 38 = .ok (.return_, 1) := by decide +kernel
theorem dX9_spread_0 : decode cX9_spread 0 = .ok (.iconst 0, 1) := by decide +kernel
theorem dX9_spread_1 : decode cX9_spread 1 = .ok (.istore_n 3, 1) := by decide +kernel
theorem dX9_spread_2 : decode cX9_spread 2 = .ok (.iload_n 3, 1) := by decide +kernel
theorem dX9_spread_3 : decode cX9_spread 3 = .ok (.bipush 64, 2) := by decide +kernel
theorem dX9_spread_5 : decode cX9_spread 5 = .ok (.if_icmp .ge 46, 3) := by decide +kernel
theorem dX9_spread_8 : decode cX9_spread 8 = .ok (.aload_n 0, 1) := by decide +kernel
theorem dX9_spread_9 : decode cX9_spread 9 = .ok (.getfield 9, 3) := by decide +kernel
theorem dX9_spread_12 : decode cX9_spread 12 = .ok (.iload_n 3, 1) := by decide +kernel
theorem dX9_spread_13 : decode cX9_spread 13 = .ok (.iconst (-1), 1) := by decide +kernel
theorem dX9_spread_14 : decode cX9_spread 14 = .ok (.iastore, 1) := by decide +kernel
theorem dX9_spread_15 : decode cX9_spread 15 = .ok (.aload_n 0, 1) := by decide +kernel
theorem dX9_spread_16 : decode cX9_spread 16 = .ok (.getfield 15, 3) := by decide +kernel
theorem dX9_spread_19 : decode cX9_spread 19 = .ok (.iload_n 3, 1) := by decide +kernel
theorem dX9_spread_20 : decode cX9_spread 20 = .ok (.aload_n 0, 1) := by decide +kernel
theorem dX9_spread_21 : decode cX9_spread 21 = .ok (.getfield 26, 3) := by decide +kernel
theorem dX9_spread_24 : decode cX9_spread 24 = .ok (.iload_n 3, 1) := by decide +kernel
theorem dX9_spread_25 : decode cX9_spread 25 = .ok (.aload_n 0, 1) := by decide +kernel
theorem dX9_spread_26 : decode cX9_spread 26 = .ok (.getfield 22, 3) := by decide +kernel
theorem dX9_spread_29 : decode cX9_spread 29 = .ok (.getfield 30, 3) := by decide +kernel
theorem dX9_spread_32 : decode cX9_spread 32 = .ok (.invokevirtual 36, 3) := by decide +kernel
theorem dX9_spread_35 : decode cX9_spread 35 = .ok (.iload_n 2, 1) := by decide +kernel
theorem dX9_spread_36 : decode cX9_spread 36 = .ok (.if_icmp .ge 7, 3) := by decide +kernel
theorem dX9_spread_39 : decode cX9_spread 39 = .ok (.iconst 1, 1) := by decide +kernel
theorem dX9_spread_40 : decode cX9_spread 40 = .ok (.goto 4, 3) := by decide +kernel
theorem dX9_spread_43 : decode cX9_spread 43 = .ok (.iconst 0, 1) := by decide +kernel
theorem dX9_spread_44 : decode cX9_spread 44 = .ok (.bastore, 1) := by decide +kernel
theorem dX9_spread_45 : decode cX9_spread 45 = .ok (.iinc 3 1, 3) := by decide +kernel
theorem dX9_spread_48 : decode cX9_spread 48 = .ok (.goto (-46), 3) := by decide +kernel
theorem dX9_spread_51 : decode cX9_spread 51 = .ok (.iconst 0, 1) := by decide +kernel
theorem dX9_spread_52 : decode cX9_spread 52 = .ok (.istore_n 3, 1) := by decide +kernel
theorem dX9_spread_53 : decode cX9_spread 53 = .ok (.aload_n 0, 1) := by decide +kernel
theorem dX9_spread_54 : decode cX9_spread 54 = .ok (.getfield 15, 3) := by decide +kernel
theorem dX9_spread_57 : decode cX9_spread 57 = .ok (.iload_n 1, 1) := by decide +kernel
theorem dX9_spread_58 : decode cX9_spread 58 = .ok (.baload, 1) := by decide +kernel
theorem dX9_spread_59 : decode cX9_spread 59 = .ok (.ifCond .eq 19, 3) := by decide +kernel
theorem dX9_spread_62 : decode cX9_spread 62 = .ok (.aload_n 0, 1) := by decide +kernel
theorem dX9_spread_63 : decode cX9_spread 63 = .ok (.getfield 9, 3) := by decide +kernel
theorem dX9_spread_66 : decode cX9_spread 66 = .ok (.iload_n 1, 1) := by decide +kernel
theorem dX9_spread_67 : decode cX9_spread 67 = .ok (.iconst 0, 1) := by decide +kernel
theorem dX9_spread_68 : decode cX9_spread 68 = .ok (.iastore, 1) := by decide +kernel
theorem dX9_spread_69 : decode cX9_spread 69 = .ok (.aload_n 0, 1) := by decide +kernel
theorem dX9_spread_70 : decode cX9_spread 70 = .ok (.getfield 19, 3) := by decide +kernel
theorem dX9_spread_73 : decode cX9_spread 73 = .ok (.iconst 0, 1) := by decide +kernel
theorem dX9_spread_74 : decode cX9_spread 74 = .ok (.iload_n 1, 1) := by decide +kernel
theorem dX9_spread_75 : decode cX9_spread 75 = .ok (.iastore, 1) := by decide +kernel
theorem dX9_spread_76 : decode cX9_spread 76 = .ok (.iconst 1, 1) := by decide +kernel
theorem dX9_spread_77 : decode cX9_spread 77 = .ok (.istore_n 3, 1) := by decide +kernel
theorem dX9_spread_78 : decode cX9_spread 78 = .ok (.iconst 0, 1) := by decide +kernel
theorem dX9_spread_79 : decode cX9_spread 79 = .ok (.istore 4, 2) := by decide +kernel
theorem dX9_spread_81 : decode cX9_spread 81 = .ok (.iload 4, 2) := by decide +kernel
theorem dX9_spread_83 : decode cX9_spread 83 = .ok (.iload_n 3, 1) := by decide +kernel
theorem dX9_spread_84 : decode cX9_spread 84 = .ok (.if_icmp .ge 29, 3) := by decide +kernel
theorem dX9_spread_87 : decode cX9_spread 87 = .ok (.iload 4, 2) := by decide +kernel
theorem dX9_spread_89 : decode cX9_spread 89 = .ok (.bipush 64, 2) := by decide +kernel
theorem dX9_spread_91 : decode cX9_spread 91 = .ok (.if_icmp .ge 22, 3) := by decide +kernel
theorem dX9_spread_94 : decode cX9_spread 94 = .ok (.aload_n 0, 1) := by decide +kernel
theorem dX9_spread_95 : decode cX9_spread 95 = .ok (.aload_n 0, 1) := by decide +kernel
theorem dX9_spread_96 : decode cX9_spread 96 = .ok (.getfield 19, 3) := by decide +kernel
theorem dX9_spread_99 : decode cX9_spread 99 = .ok (.iload 4, 2) := by decide +kernel
theorem dX9_spread_101 : decode cX9_spread 101 = .ok (.iaload, 1) := by decide +kernel
theorem dX9_spread_102 : decode cX9_spread 102 = .ok (.iload_n 3, 1) := by decide +kernel
theorem dX9_spread_103 : decode cX9_spread 103 = .ok (.invokevirtual 42, 3) := by decide +kernel
theorem dX9_spread_106 : decode cX9_spread 106 = .ok (.istore_n 3, 1) := by decide +kernel
theorem dX9_spread_107 : decode cX9_spread 107 = .ok (.iinc 4 1, 3) := by decide +kernel
theorem dX9_spread_110 : decode cX9_spread 110 = .ok (.goto (-29), 3) := by decide +kernel
theorem dX9_spread_113 : decode cX9_spread 113 = .ok (.return_, 1) := by decide +kernel
theorem dX9_spreadFrom_0 : decode cX9_spreadFrom 0 = .ok (.iload_n 2, 1) := by decide +kernel
theorem dX9_spreadFrom_1 : decode cX9_spreadFrom 1 = .ok (.istore_n 3, 1) := by decide +kernel
theorem dX9_spreadFrom_2 : decode cX9_spreadFrom 2 = .ok (.iconst 0, 1) := by decide +kernel
theorem dX9_spreadFrom_3 : decode cX9_spreadFrom 3 = .ok (.istore 4, 2) := by decide +kernel
theorem dX9_spreadFrom_5 : decode cX9_spreadFrom 5 = .ok (.iload 4, 2) := by decide +kernel
theorem dX9_spreadFrom_7 : decode cX9_spreadFrom 7 = .ok (.iconst 4, 1) := by decide +kernel
theorem dX9_spreadFrom_8 : decode cX9_spreadFrom 8 = .ok (.if_icmp .ge 76, 3) := by decide +kernel
theorem dX9_spreadFrom_11 : decode cX9_spreadFrom 11 = .ok (.iload_n 1, 1) := by decide +kernel
theorem dX9_spreadFrom_12 : decode cX9_spreadFrom 12 = .ok (.iload 4, 2) := by decide +kernel
theorem dX9_spreadFrom_14 : decode cX9_spreadFrom 14 = .ok (.invokestatic 45, 3) := by decide +kernel
theorem dX9_spreadFrom_17 : decode cX9_spreadFrom 17 = .ok (.istore 5, 2) := by decide +kernel
theorem dX9_spreadFrom_19 : decode cX9_spreadFrom 19 = .ok (.iload 5, 2) := by decide +kernel
theorem dX9_spreadFrom_21 : decode cX9_spreadFrom 21 = .ok (.iconst (-1), 1) := by decide +kernel
theorem dX9_spreadFrom_22 : decode cX9_spreadFrom 22 = .ok (.if_icmp .eq 56, 3) := by decide +kernel
theorem dX9_spreadFrom_25 : decode cX9_spreadFrom 25 = .ok (.iload_n 3, 1) := by decide +kernel
theorem dX9_spreadFrom_26 : decode cX9_spreadFrom 26 = .ok (.bipush 64, 2) := by decide +kernel
theorem dX9_spreadFrom_28 : decode cX9_spreadFrom 28 = .ok (.if_icmp .ge 50, 3) := by decide +kernel
theorem dX9_spreadFrom_31 : decode cX9_spreadFrom 31 = .ok (.aload_n 0, 1) := by decide +kernel
theorem dX9_spreadFrom_32 : decode cX9_spreadFrom 32 = .ok (.getfield 15, 3) := by decide +kernel
theorem dX9_spreadFrom_35 : decode cX9_spreadFrom 35 = .ok (.iload 5, 2) := by decide +kernel
theorem dX9_spreadFrom_37 : decode cX9_spreadFrom 37 = .ok (.baload, 1) := by decide +kernel
theorem dX9_spreadFrom_38 : decode cX9_spreadFrom 38 = .ok (.ifCond .eq 40, 3) := by decide +kernel
theorem dX9_spreadFrom_41 : decode cX9_spreadFrom 41 = .ok (.aload_n 0, 1) := by decide +kernel
theorem dX9_spreadFrom_42 : decode cX9_spreadFrom 42 = .ok (.getfield 9, 3) := by decide +kernel
theorem dX9_spreadFrom_45 : decode cX9_spreadFrom 45 = .ok (.iload 5, 2) := by decide +kernel
theorem dX9_spreadFrom_47 : decode cX9_spreadFrom 47 = .ok (.iaload, 1) := by decide +kernel
theorem dX9_spreadFrom_48 : decode cX9_spreadFrom 48 = .ok (.iconst (-1), 1) := by decide +kernel
theorem dX9_spreadFrom_49 : decode cX9_spreadFrom 49 = .ok (.if_icmp .ne 29, 3) := by decide +kernel
theorem dX9_spreadFrom_52 : decode cX9_spreadFrom 52 = .ok (.aload_n 0, 1) := by decide +kernel
theorem dX9_spreadFrom_53 : decode cX9_spreadFrom 53 = .ok (.getfield 9, 3) := by decide +kernel
theorem dX9_spreadFrom_56 : decode cX9_spreadFrom 56 = .ok (.iload 5, 2) := by decide +kernel
theorem dX9_spreadFrom_58 : decode cX9_spreadFrom 58 = .ok (.aload_n 0, 1) := by decide +kernel
theorem dX9_spreadFrom_59 : decode cX9_spreadFrom 59 = .ok (.getfield 9, 3) := by decide +kernel
theorem dX9_spreadFrom_62 : decode cX9_spreadFrom 62 = .ok (.iload_n 1, 1) := by decide +kernel
theorem dX9_spreadFrom_63 : decode cX9_spreadFrom 63 = .ok (.iaload, 1) := by decide +kernel
theorem dX9_spreadFrom_64 : decode cX9_spreadFrom 64 = .ok (.iconst 1, 1) := by decide +kernel
theorem dX9_spreadFrom_65 : decode cX9_spreadFrom 65 = .ok (.iadd, 1) := by decide +kernel
theorem dX9_spreadFrom_66 : decode cX9_spreadFrom 66 = .ok (.iastore, 1) := by decide +kernel
theorem dX9_spreadFrom_67 : decode cX9_spreadFrom 67 = .ok (.aload_n 0, 1) := by decide +kernel
theorem dX9_spreadFrom_68 : decode cX9_spreadFrom 68 = .ok (.getfield 19, 3) := by decide +kernel
theorem dX9_spreadFrom_71 : decode cX9_spreadFrom 71 = .ok (.iload_n 3, 1) := by decide +kernel
theorem dX9_spreadFrom_72 : decode cX9_spreadFrom 72 = .ok (.iload 5, 2) := by decide +kernel
theorem dX9_spreadFrom_74 : decode cX9_spreadFrom 74 = .ok (.iastore, 1) := by decide +kernel
theorem dX9_spreadFrom_75 : decode cX9_spreadFrom 75 = .ok (.iinc 3 1, 3) := by decide +kernel
theorem dX9_spreadFrom_78 : decode cX9_spreadFrom 78 = .ok (.iinc 4 1, 3) := by decide +kernel
theorem dX9_spreadFrom_81 : decode cX9_spreadFrom 81 = .ok (.goto (-76), 3) := by decide +kernel
theorem dX9_spreadFrom_84 : decode cX9_spreadFrom 84 = .ok (.iload_n 3, 1) := by decide +kernel
theorem dX9_spreadFrom_85 : decode cX9_spreadFrom 85 = .ok (.ireturn, 1) := by decide +kernel
theorem dX9_stepsFrom_0 : decode cX9_stepsFrom 0 = .ok (.aload_n 0, 1) := by decide +kernel
theorem dX9_stepsFrom_1 : decode cX9_stepsFrom 1 = .ok (.getfield 9, 3) := by decide +kernel
theorem dX9_stepsFrom_4 : decode cX9_stepsFrom 4 = .ok (.iload_n 1, 1) := by decide +kernel
theorem dX9_stepsFrom_5 : decode cX9_stepsFrom 5 = .ok (.iaload, 1) := by decide +kernel
theorem dX9_stepsFrom_6 : decode cX9_stepsFrom 6 = .ok (.ireturn, 1) := by decide +kernel
theorem dX9_firstBehind_0 : decode cX9_firstBehind 0 = .ok (.aload_n 0, 1) := by decide +kernel
theorem dX9_firstBehind_1 : decode cX9_firstBehind 1 = .ok (.getfield 9, 3) := by decide +kernel
theorem dX9_firstBehind_4 : decode cX9_firstBehind 4 = .ok (.iload_n 1, 1) := by decide +kernel
theorem dX9_firstBehind_5 : decode cX9_firstBehind 5 = .ok (.iaload, 1) := by decide +kernel
theorem dX9_firstBehind_6 : decode cX9_firstBehind 6 = .ok (.ifCond .gt 18, 3) := by decide +kernel
theorem dX9_firstBehind_9 : decode cX9_firstBehind 9 = .ok (.aload_n 0, 1) := by decide +kernel
theorem dX9_firstBehind_10 : decode cX9_firstBehind 10 = .ok (.getfield 9, 3) := by decide +kernel
theorem dX9_firstBehind_13 : decode cX9_firstBehind 13 = .ok (.iload_n 1, 1) := by decide +kernel
theorem dX9_firstBehind_14 : decode cX9_firstBehind 14 = .ok (.iaload, 1) := by decide +kernel
theorem dX9_firstBehind_15 : decode cX9_firstBehind 15 = .ok (.ifCond .ne 7, 3) := by decide +kernel
theorem dX9_firstBehind_18 : decode cX9_firstBehind 18 = .ok (.iload_n 1, 1) := by decide +kernel
theorem dX9_firstBehind_19 : decode cX9_firstBehind 19 = .ok (.goto 4, 3) := by decide +kernel
theorem dX9_firstBehind_22 : decode cX9_firstBehind 22 = .ok (.iconst (-1), 1) := by decide +kernel
theorem dX9_firstBehind_23 : decode cX9_firstBehind 23 = .ok (.ireturn, 1) := by decide +kernel
theorem dX9_firstBehind_24 : decode cX9_firstBehind 24 = .ok (.iconst 0, 1) := by decide +kernel
theorem dX9_firstBehind_25 : decode cX9_firstBehind 25 = .ok (.istore_n 2, 1) := by decide +kernel
theorem dX9_firstBehind_26 : decode cX9_firstBehind 26 = .ok (.iload_n 2, 1) := by decide +kernel
theorem dX9_firstBehind_27 : decode cX9_firstBehind 27 = .ok (.iconst 4, 1) := by decide +kernel
theorem dX9_firstBehind_28 : decode cX9_firstBehind 28 = .ok (.if_icmp .ge 39, 3) := by decide +kernel
theorem dX9_firstBehind_31 : decode cX9_firstBehind 31 = .ok (.iload_n 1, 1) := by decide +kernel
theorem dX9_firstBehind_32 : decode cX9_firstBehind 32 = .ok (.iload_n 2, 1) := by decide +kernel
theorem dX9_firstBehind_33 : decode cX9_firstBehind 33 = .ok (.invokestatic 45, 3) := by decide +kernel
theorem dX9_firstBehind_36 : decode cX9_firstBehind 36 = .ok (.istore_n 3, 1) := by decide +kernel
theorem dX9_firstBehind_37 : decode cX9_firstBehind 37 = .ok (.iload_n 3, 1) := by decide +kernel
theorem dX9_firstBehind_38 : decode cX9_firstBehind 38 = .ok (.iconst (-1), 1) := by decide +kernel
theorem dX9_firstBehind_39 : decode cX9_firstBehind 39 = .ok (.if_icmp .eq 22, 3) := by decide +kernel
theorem dX9_firstBehind_42 : decode cX9_firstBehind 42 = .ok (.aload_n 0, 1) := by decide +kernel
theorem dX9_firstBehind_43 : decode cX9_firstBehind 43 = .ok (.getfield 9, 3) := by decide +kernel
theorem dX9_firstBehind_46 : decode cX9_firstBehind 46 = .ok (.iload_n 3, 1) := by decide +kernel
theorem dX9_firstBehind_47 : decode cX9_firstBehind 47 = .ok (.iaload, 1) := by decide +kernel
theorem dX9_firstBehind_48 : decode cX9_firstBehind 48 = .ok (.aload_n 0, 1) := by decide +kernel
theorem dX9_firstBehind_49 : decode cX9_firstBehind 49 = .ok (.getfield 9, 3) := by decide +kernel
theorem dX9_firstBehind_52 : decode cX9_firstBehind 52 = .ok (.iload_n 1, 1) := by decide +kernel
theorem dX9_firstBehind_53 : decode cX9_firstBehind 53 = .ok (.iaload, 1) := by decide +kernel
theorem dX9_firstBehind_54 : decode cX9_firstBehind 54 = .ok (.iconst 1, 1) := by decide +kernel
theorem dX9_firstBehind_55 : decode cX9_firstBehind 55 = .ok (.isub, 1) := by decide +kernel
theorem dX9_firstBehind_56 : decode cX9_firstBehind 56 = .ok (.if_icmp .ne 5, 3) := by decide +kernel
theorem dX9_firstBehind_59 : decode cX9_firstBehind 59 = .ok (.iload_n 3, 1) := by decide +kernel
theorem dX9_firstBehind_60 : decode cX9_firstBehind 60 = .ok (.ireturn, 1) := by decide +kernel
theorem dX9_firstBehind_61 : decode cX9_firstBehind 61 = .ok (.iinc 2 1, 3) := by decide +kernel
theorem dX9_firstBehind_64 : decode cX9_firstBehind 64 = .ok (.goto (-38), 3) := by decide +kernel
theorem dX9_firstBehind_67 : decode cX9_firstBehind 67 = .ok (.iconst (-1), 1) := by decide +kernel
theorem dX9_firstBehind_68 : decode cX9_firstBehind 68 = .ok (.ireturn, 1) := by decide +kernel
theorem dX9_beside_0 : decode cX9_beside 0 = .ok (.iload_n 1, 1) := by decide +kernel
theorem dX9_beside_1 : decode cX9_beside 1 = .ok (.tableswitch 74 0 2 #[27, 42, 57], 27) := by decide +kernel
theorem dX9_beside_28 : decode cX9_beside 28 = .ok (.iload_n 0, 1) := by decide +kernel
theorem dX9_beside_29 : decode cX9_beside 29 = .ok (.bipush 8, 2) := by decide +kernel
theorem dX9_beside_31 : decode cX9_beside 31 = .ok (.if_icmp .lt 10, 3) := by decide +kernel
theorem dX9_beside_34 : decode cX9_beside 34 = .ok (.iload_n 0, 1) := by decide +kernel
theorem dX9_beside_35 : decode cX9_beside 35 = .ok (.bipush 8, 2) := by decide +kernel
theorem dX9_beside_37 : decode cX9_beside 37 = .ok (.isub, 1) := by decide +kernel
theorem dX9_beside_38 : decode cX9_beside 38 = .ok (.goto 4, 3) := by decide +kernel
theorem dX9_beside_41 : decode cX9_beside 41 = .ok (.iconst (-1), 1) := by decide +kernel
theorem dX9_beside_42 : decode cX9_beside 42 = .ok (.ireturn, 1) := by decide +kernel
theorem dX9_beside_43 : decode cX9_beside 43 = .ok (.iload_n 0, 1) := by decide +kernel
theorem dX9_beside_44 : decode cX9_beside 44 = .ok (.bipush 8, 2) := by decide +kernel
theorem dX9_beside_46 : decode cX9_beside 46 = .ok (.irem, 1) := by decide +kernel
theorem dX9_beside_47 : decode cX9_beside 47 = .ok (.ifCond .le 9, 3) := by decide +kernel
theorem dX9_beside_50 : decode cX9_beside 50 = .ok (.iload_n 0, 1) := by decide +kernel
theorem dX9_beside_51 : decode cX9_beside 51 = .ok (.iconst 1, 1) := by decide +kernel
theorem dX9_beside_52 : decode cX9_beside 52 = .ok (.isub, 1) := by decide +kernel
theorem dX9_beside_53 : decode cX9_beside 53 = .ok (.goto 4, 3) := by decide +kernel
theorem dX9_beside_56 : decode cX9_beside 56 = .ok (.iconst (-1), 1) := by decide +kernel
theorem dX9_beside_57 : decode cX9_beside 57 = .ok (.ireturn, 1) := by decide +kernel
theorem dX9_beside_58 : decode cX9_beside 58 = .ok (.iload_n 0, 1) := by decide +kernel
theorem dX9_beside_59 : decode cX9_beside 59 = .ok (.bipush 8, 2) := by decide +kernel
theorem dX9_beside_61 : decode cX9_beside 61 = .ok (.irem, 1) := by decide +kernel
theorem dX9_beside_62 : decode cX9_beside 62 = .ok (.bipush 7, 2) := by decide +kernel
theorem dX9_beside_64 : decode cX9_beside 64 = .ok (.if_icmp .ge 9, 3) := by decide +kernel
theorem dX9_beside_67 : decode cX9_beside 67 = .ok (.iload_n 0, 1) := by decide +kernel
theorem dX9_beside_68 : decode cX9_beside 68 = .ok (.iconst 1, 1) := by decide +kernel
theorem dX9_beside_69 : decode cX9_beside 69 = .ok (.iadd, 1) := by decide +kernel
theorem dX9_beside_70 : decode cX9_beside 70 = .ok (.goto 4, 3) := by decide +kernel
theorem dX9_beside_73 : decode cX9_beside 73 = .ok (.iconst (-1), 1) := by decide +kernel
theorem dX9_beside_74 : decode cX9_beside 74 = .ok (.ireturn, 1) := by decide +kernel
theorem dX9_beside_75 : decode cX9_beside 75 = .ok (.iload_n 0, 1) := by decide +kernel
theorem dX9_beside_76 : decode cX9_beside 76 = .ok (.bipush 56, 2) := by decide +kernel
theorem dX9_beside_78 : decode cX9_beside 78 = .ok (.if_icmp .ge 10, 3) := by decide +kernel
theorem dX9_beside_81 : decode cX9_beside 81 = .ok (.iload_n 0, 1) := by decide +kernel
theorem dX9_beside_82 : decode cX9_beside 82 = .ok (.bipush 8, 2) := by decide +kernel
theorem dX9_beside_84 : decode cX9_beside 84 = .ok (.iadd, 1) := by decide +kernel
theorem dX9_beside_85 : decode cX9_beside 85 = .ok (.goto 4, 3) := by decide +kernel
theorem dX9_beside_88 : decode cX9_beside 88 = .ok (.iconst (-1), 1) := by decide +kernel
theorem dX9_beside_89 : decode cX9_beside 89 = .ok (.ireturn, 1) := by decide +kernel
theorem dX10_init_0 : decode cX10_init 0 = .ok (.aload_n 0, 1) := by decide +kernel
theorem dX10_init_1 : decode cX10_init 1 = .ok (.invokespecial 1, 3) := by decide +kernel
theorem dX10_init_4 : decode cX10_init 4 = .ok (.return_, 1) := by decide +kernel
theorem dX10_strength_0 : decode cX10_strength 0 = .ok (.aload_n 0, 1) := by decide +kernel
theorem dX10_strength_1 : decode cX10_strength 1 = .ok (.iload_n 1, 1) := by decide +kernel
theorem dX10_strength_2 : decode cX10_strength 2 = .ok (.iload_n 2, 1) := by decide +kernel
theorem dX10_strength_3 : decode cX10_strength 3 = .ok (.invokespecial 7, 3) := by decide +kernel
theorem dX10_strength_6 : decode cX10_strength 6 = .ok (.istore_n 3, 1) := by decide +kernel
theorem dX10_strength_7 : decode cX10_strength 7 = .ok (.iload_n 3, 1) := by decide +kernel
theorem dX10_strength_8 : decode cX10_strength 8 = .ok (.ifCond .le 9, 3) := by decide +kernel
theorem dX10_strength_11 : decode cX10_strength 11 = .ok (.iload_n 3, 1) := by decide +kernel
theorem dX10_strength_12 : decode cX10_strength 12 = .ok (.iconst 3, 1) := by decide +kernel
theorem dX10_strength_13 : decode cX10_strength 13 = .ok (.iadd, 1) := by decide +kernel
theorem dX10_strength_14 : decode cX10_strength 14 = .ok (.goto 4, 3) := by decide +kernel
theorem dX10_strength_17 : decode cX10_strength 17 = .ok (.iconst 0, 1) := by decide +kernel
theorem dX10_strength_18 : decode cX10_strength 18 = .ok (.ireturn, 1) := by decide +kernel
theorem dX10_hours_0 : decode cX10_hours 0 = .ok (.aload_n 0, 1) := by decide +kernel
theorem dX10_hours_1 : decode cX10_hours 1 = .ok (.iload_n 1, 1) := by decide +kernel
theorem dX10_hours_2 : decode cX10_hours 2 = .ok (.invokespecial 11, 3) := by decide +kernel
theorem dX10_hours_5 : decode cX10_hours 5 = .ok (.iconst 2, 1) := by decide +kernel
theorem dX10_hours_6 : decode cX10_hours 6 = .ok (.idiv, 1) := by decide +kernel
theorem dX10_hours_7 : decode cX10_hours 7 = .ok (.ireturn, 1) := by decide +kernel
theorem dX11_init_0 : decode cX11_init 0 = .ok (.aload_n 0, 1) := by decide +kernel
theorem dX11_init_1 : decode cX11_init 1 = .ok (.invokespecial 3, 3) := by decide +kernel
theorem dX11_init_4 : decode cX11_init 4 = .ok (.aload_n 0, 1) := by decide +kernel
theorem dX11_init_5 : decode cX11_init 5 = .ok (.new 9, 3) := by decide +kernel
theorem dX11_init_8 : decode cX11_init 8 = .ok (.dup, 1) := by decide +kernel
theorem dX11_init_9 : decode cX11_init 9 = .ok (.invokespecial 11, 3) := by decide +kernel
theorem dX11_init_12 : decode cX11_init 12 = .ok (.putfield 12, 3) := by decide +kernel
theorem dX11_init_15 : decode cX11_init 15 = .ok (.aload_n 0, 1) := by decide +kernel
theorem dX11_init_16 : decode cX11_init 16 = .ok (.iconst 2, 1) := by decide +kernel
theorem dX11_init_17 : decode cX11_init 17 = .ok (.anewarray 9, 3) := by decide +kernel
theorem dX11_init_20 : decode cX11_init 20 = .ok (.dup, 1) := by decide +kernel
theorem dX11_init_21 : decode cX11_init 21 = .ok (.iconst 0, 1) := by decide +kernel
theorem dX11_init_22 : decode cX11_init 22 = .ok (.new 9, 3) := by decide +kernel
theorem dX11_init_25 : decode cX11_init 25 = .ok (.dup, 1) := by decide +kernel
theorem dX11_init_26 : decode cX11_init 26 = .ok (.invokespecial 11, 3) := by decide +kernel
theorem dX11_init_29 : decode cX11_init 29 = .ok (.aastore, 1) := by decide +kernel
theorem dX11_init_30 : decode cX11_init 30 = .ok (.dup, 1) := by decide +kernel
theorem dX11_init_31 : decode cX11_init 31 = .ok (.iconst 1, 1) := by decide +kernel
theorem dX11_init_32 : decode cX11_init 32 = .ok (.new 9, 3) := by decide +kernel
theorem dX11_init_35 : decode cX11_init 35 = .ok (.dup, 1) := by decide +kernel
theorem dX11_init_36 : decode cX11_init 36 = .ok (.invokespecial 11, 3) := by decide +kernel
theorem dX11_init_39 : decode cX11_init 39 = .ok (.aastore, 1) := by decide +kernel
theorem dX11_init_40 : decode cX11_init 40 = .ok (.putfield 16, 3) := by decide +kernel
theorem dX11_init_43 : decode cX11_init 43 = .ok (.aload_n 0, 1) := by decide +kernel
theorem dX11_init_44 : decode cX11_init 44 = .ok (.iconst 2, 1) := by decide +kernel
theorem dX11_init_45 : decode cX11_init 45 = .ok (.newarray .boolean, 2) := by decide +kernel
theorem dX11_init_47 : decode cX11_init 47 = .ok (.putfield 20, 3) := by decide +kernel
theorem dX11_init_50 : decode cX11_init 50 = .ok (.aload_n 0, 1) := by decide +kernel
theorem dX11_init_51 : decode cX11_init 51 = .ok (.new 24, 3) := by decide +kernel
theorem dX11_init_54 : decode cX11_init 54 = .ok (.dup, 1) := by decide +kernel
theorem dX11_init_55 : decode cX11_init 55 = .ok (.invokespecial 26, 3) := by decide +kernel
theorem dX11_init_58 : decode cX11_init 58 = .ok (.putfield 27, 3) := by decide +kernel
theorem dX11_init_61 : decode cX11_init 61 = .ok (.aload_n 0, 1) := by decide +kernel
theorem dX11_init_62 : decode cX11_init 62 = .ok (.new 31, 3) := by decide +kernel
theorem dX11_init_65 : decode cX11_init 65 = .ok (.dup, 1) := by decide +kernel
theorem dX11_init_66 : decode cX11_init 66 = .ok (.aload_n 0, 1) := by decide +kernel
theorem dX11_init_67 : decode cX11_init 67 = .ok (.getfield 12, 3) := by decide +kernel
theorem dX11_init_70 : decode cX11_init 70 = .ok (.invokespecial 33, 3) := by decide +kernel
theorem dX11_init_73 : decode cX11_init 73 = .ok (.putfield 36, 3) := by decide +kernel
theorem dX11_init_76 : decode cX11_init 76 = .ok (.aload_n 0, 1) := by decide +kernel
theorem dX11_init_77 : decode cX11_init 77 = .ok (.new 40, 3) := by decide +kernel
theorem dX11_init_80 : decode cX11_init 80 = .ok (.dup, 1) := by decide +kernel
theorem dX11_init_81 : decode cX11_init 81 = .ok (.aload_n 0, 1) := by decide +kernel
theorem dX11_init_82 : decode cX11_init 82 = .ok (.getfield 12, 3) := by decide +kernel
theorem dX11_init_85 : decode cX11_init 85 = .ok (.aload_n 0, 1) := by decide +kernel
theorem dX11_init_86 : decode cX11_init 86 = .ok (.getfield 36, 3) := by decide +kernel
theorem dX11_init_89 : decode cX11_init 89 = .ok (.invokespecial 42, 3) := by decide +kernel
theorem dX11_init_92 : decode cX11_init 92 = .ok (.putfield 45, 3) := by decide +kernel
theorem dX11_init_95 : decode cX11_init 95 = .ok (.aload_n 0, 1) := by decide +kernel
theorem dX11_init_96 : decode cX11_init 96 = .ok (.new 49, 3) := by decide +kernel
theorem dX11_init_99 : decode cX11_init 99 = .ok (.dup, 1) := by decide +kernel
theorem dX11_init_100 : decode cX11_init 100 = .ok (.aload_n 0, 1) := by decide +kernel
theorem dX11_init_101 : decode cX11_init 101 = .ok (.getfield 12, 3) := by decide +kernel
theorem dX11_init_104 : decode cX11_init 104 = .ok (.aload_n 0, 1) := by decide +kernel
theorem dX11_init_105 : decode cX11_init 105 = .ok (.getfield 36, 3) := by decide +kernel
theorem dX11_init_108 : decode cX11_init 108 = .ok (.invokespecial 51, 3) := by decide +kernel
theorem dX11_init_111 : decode cX11_init 111 = .ok (.putfield 52, 3) := by decide +kernel
theorem dX11_init_114 : decode cX11_init 114 = .ok (.aload_n 0, 1) := by decide +kernel
theorem dX11_init_115 : decode cX11_init 115 = .ok (.lconst 0, 1) := by decide +kernel
theorem dX11_init_116 : decode cX11_init 116 = .ok (.putfield 56, 3) := by decide +kernel
theorem dX11_init_119 : decode cX11_init 119 = .ok (.aload_n 0, 1) := by decide +kernel
theorem dX11_init_120 : decode cX11_init 120 = .ok (.lconst 1, 1) := by decide +kernel
theorem dX11_init_121 : decode cX11_init 121 = .ok (.putfield 60, 3) := by decide +kernel
theorem dX11_init_124 : decode cX11_init 124 = .ok (.aload_n 0, 1) := by decide +kernel
theorem dX11_init_125 : decode cX11_init 125 = .ok (.iconst 0, 1) := by decide +kernel
theorem dX11_init_126 : decode cX11_init 126 = .ok (.putfield 63, 3) := by decide +kernel
theorem dX11_init_129 : decode cX11_init 129 = .ok (.aload_n 0, 1) := by decide +kernel
theorem dX11_init_130 : decode cX11_init 130 = .ok (.iconst 0, 1) := by decide +kernel
theorem dX11_init_131 : decode cX11_init 131 = .ok (.putfield 67, 3) := by decide +kernel
theorem dX11_init_134 : decode cX11_init 134 = .ok (.aload_n 0, 1) := by decide +kernel
theorem dX11_init_135 : decode cX11_init 135 = .ok (.iconst 0, 1) := by decide +kernel
theorem dX11_init_136 : decode cX11_init 136 = .ok (.putfield 70, 3) := by decide +kernel
theorem dX11_init_139 : decode cX11_init 139 = .ok (.return_, 1) := by decide +kernel
theorem dX11_valley_0 : decode cX11_valley 0 = .ok (.iload_n 1, 1) := by decide +kernel
theorem dX11_valley_1 : decode cX11_valley 1 = .ok (.iconst 0, 1) := by decide +kernel
theorem dX11_valley_2 : decode cX11_valley 2 = .ok (.bipush 9, 2) := by decide +kernel
theorem dX11_valley_4 : decode cX11_valley 4 = .ok (.invokestatic 73, 3) := by decide +kernel
theorem dX11_valley_7 : decode cX11_valley 7 = .ok (.ifCond .ne 10, 3) := by decide +kernel
theorem dX11_valley_10 : decode cX11_valley 10 = .ok (.aload_n 0, 1) := by decide +kernel
theorem dX11_valley_11 : decode cX11_valley 11 = .ok (.bipush (-2), 2) := by decide +kernel
theorem dX11_valley_13 : decode cX11_valley 13 = .ok (.invokevirtual 77, 3) := by decide +kernel
theorem dX11_valley_16 : decode cX11_valley 16 = .ok (.ireturn, 1) := by decide +kernel
theorem dX11_valley_17 : decode cX11_valley 17 = .ok (.aload_n 0, 1) := by decide +kernel
theorem dX11_valley_18 : decode cX11_valley 18 = .ok (.getfield 12, 3) := by decide +kernel
theorem dX11_valley_21 : decode cX11_valley 21 = .ok (.getfield 81, 3) := by decide +kernel
theorem dX11_valley_24 : decode cX11_valley 24 = .ok (.istore_n 2, 1) := by decide +kernel
theorem dX11_valley_25 : decode cX11_valley 25 = .ok (.aload_n 0, 1) := by decide +kernel
theorem dX11_valley_26 : decode cX11_valley 26 = .ok (.getfield 12, 3) := by decide +kernel
theorem dX11_valley_29 : decode cX11_valley 29 = .ok (.iload_n 1, 1) := by decide +kernel
theorem dX11_valley_30 : decode cX11_valley 30 = .ok (.invokevirtual 84, 3) := by decide +kernel
theorem dX11_valley_33 : decode cX11_valley 33 = .ok (.iload_n 2, 1) := by decide +kernel
theorem dX11_valley_34 : decode cX11_valley 34 = .ok (.ireturn, 1) := by decide +kernel
theorem dX11_fog_0 : decode cX11_fog 0 = .ok (.iload_n 1, 1) := by decide +kernel
theorem dX11_fog_1 : decode cX11_fog 1 = .ok (.iconst 0, 1) := by decide +kernel
theorem dX11_fog_2 : decode cX11_fog 2 = .ok (.bipush 9, 2) := by decide +kernel
theorem dX11_fog_4 : decode cX11_fog 4 = .ok (.invokestatic 73, 3) := by decide +kernel
theorem dX11_fog_7 : decode cX11_fog 7 = .ok (.ifCond .ne 10, 3) := by decide +kernel
theorem dX11_fog_10 : decode cX11_fog 10 = .ok (.aload_n 0, 1) := by decide +kernel
theorem dX11_fog_11 : decode cX11_fog 11 = .ok (.bipush (-2), 2) := by decide +kernel
theorem dX11_fog_13 : decode cX11_fog 13 = .ok (.invokevirtual 77, 3) := by decide +kernel
theorem dX11_fog_16 : decode cX11_fog 16 = .ok (.ireturn, 1) := by decide +kernel
theorem dX11_fog_17 : decode cX11_fog 17 = .ok (.aload_n 0, 1) := by decide +kernel
theorem dX11_fog_18 : decode cX11_fog 18 = .ok (.getfield 12, 3) := by decide +kernel
theorem dX11_fog_21 : decode cX11_fog 21 = .ok (.getfield 88, 3) := by decide +kernel
theorem dX11_fog_24 : decode cX11_fog 24 = .ok (.istore_n 2, 1) := by decide +kernel
theorem dX11_fog_25 : decode cX11_fog 25 = .ok (.aload_n 0, 1) := by decide +kernel
theorem dX11_fog_26 : decode cX11_fog 26 = .ok (.getfield 12, 3) := by decide +kernel
theorem dX11_fog_29 : decode cX11_fog 29 = .ok (.iload_n 1, 1) := by decide +kernel
theorem dX11_fog_30 : decode cX11_fog 30 = .ok (.putfield 88, 3) := by decide +kernel
theorem dX11_fog_33 : decode cX11_fog 33 = .ok (.iload_n 2, 1) := by decide +kernel
theorem dX11_fog_34 : decode cX11_fog 34 = .ok (.ireturn, 1) := by decide +kernel
theorem dX11_candle_0 : decode cX11_candle 0 = .ok (.iload_n 1, 1) := by decide +kernel
theorem dX11_candle_1 : decode cX11_candle 1 = .ok (.iconst 0, 1) := by decide +kernel
theorem dX11_candle_2 : decode cX11_candle 2 = .ok (.iconst 5, 1) := by decide +kernel
theorem dX11_candle_3 : decode cX11_candle 3 = .ok (.invokestatic 73, 3) := by decide +kernel
theorem dX11_candle_6 : decode cX11_candle 6 = .ok (.ifCond .eq 39, 3) := by decide +kernel
theorem dX11_candle_9 : decode cX11_candle 9 = .ok (.iload_n 2, 1) := by decide +kernel
theorem dX11_candle_10 : decode cX11_candle 10 = .ok (.invokestatic 91, 3) := by decide +kernel
theorem dX11_candle_13 : decode cX11_candle 13 = .ok (.ifCond .eq 32, 3) := by decide +kernel
theorem dX11_candle_16 : decode cX11_candle 16 = .ok (.iload_n 3, 1) := by decide +kernel
theorem dX11_candle_17 : decode cX11_candle 17 = .ok (.iconst 1, 1) := by decide +kernel
theorem dX11_candle_18 : decode cX11_candle 18 = .ok (.bipush 20, 2) := by decide +kernel
theorem dX11_candle_20 : decode cX11_candle 20 = .ok (.invokestatic 73, 3) := by decide +kernel
theorem dX11_candle_23 : decode cX11_candle 23 = .ok (.ifCond .eq 22, 3) := by decide +kernel
theorem dX11_candle_26 : decode cX11_candle 26 = .ok (.iload 4, 2) := by decide +kernel
theorem dX11_candle_28 : decode cX11_candle 28 = .ok (.invokestatic 95, 3) := by decide +kernel
theorem dX11_candle_31 : decode cX11_candle 31 = .ok (.ifCond .eq 14, 3) := by decide +kernel
theorem dX11_candle_34 : decode cX11_candle 34 = .ok (.iload 5, 2) := by decide +kernel
theorem dX11_candle_36 : decode cX11_candle 36 = .ok (.iconst 0, 1) := by decide +kernel
theorem dX11_candle_37 : decode cX11_candle 37 = .ok (.bipush 12, 2) := by decide +kernel
theorem dX11_candle_39 : decode cX11_candle 39 = .ok (.invokestatic 73, 3) := by decide +kernel
theorem dX11_candle_42 : decode cX11_candle 42 = .ok (.ifCond .ne 10, 3) := by decide +kernel
theorem dX11_candle_45 : decode cX11_candle 45 = .ok (.aload_n 0, 1) := by decide +kernel
theorem dX11_candle_46 : decode cX11_candle 46 = .ok (.bipush (-2), 2) := by decide +kernel
theorem dX11_candle_48 : decode cX11_candle 48 = .ok (.invokevirtual 77, 3) := by decide +kernel
theorem dX11_candle_51 : decode cX11_candle 51 = .ok (.ireturn, 1) := by decide +kernel
theorem dX11_candle_52 : decode cX11_candle 52 = .ok (.aload_n 0, 1) := by decide +kernel
theorem dX11_candle_53 : decode cX11_candle 53 = .ok (.getfield 12, 3) := by decide +kernel
theorem dX11_candle_56 : decode cX11_candle 56 = .ok (.getfield 81, 3) := by decide +kernel
theorem dX11_candle_59 : decode cX11_candle 59 = .ok (.bipush 7, 2) := by decide +kernel
theorem dX11_candle_61 : decode cX11_candle 61 = .ok (.if_icmp .lt 8, 3) := by decide +kernel
theorem dX11_candle_64 : decode cX11_candle 64 = .ok (.aload_n 0, 1) := by decide +kernel
theorem dX11_candle_65 : decode cX11_candle 65 = .ok (.invokevirtual 98, 3) := by decide +kernel
theorem dX11_candle_68 : decode cX11_candle 68 = .ok (.ireturn, 1) := by decide +kernel
theorem dX11_candle_69 : decode cX11_candle 69 = .ok (.aload_n 0, 1) := by decide +kernel
theorem dX11_candle_70 : decode cX11_candle 70 = .ok (.getfield 12, 3) := by decide +kernel
theorem dX11_candle_73 : decode cX11_candle 73 = .ok (.iload_n 1, 1) := by decide +kernel
theorem dX11_candle_74 : decode cX11_candle 74 = .ok (.iload_n 2, 1) := by decide +kernel
theorem dX11_candle_75 : decode cX11_candle 75 = .ok (.iload_n 3, 1) := by decide +kernel
theorem dX11_candle_76 : decode cX11_candle 76 = .ok (.iload 4, 2) := by decide +kernel
theorem dX11_candle_78 : decode cX11_candle 78 = .ok (.iload 5, 2) := by decide +kernel
theorem dX11_candle_80 : decode cX11_candle 80 = .ok (.invokevirtual 102, 3) := by decide +kernel
theorem dX11_candle_83 : decode cX11_candle 83 = .ok (.ireturn, 1) := by decide +kernel
theorem dX11_move_0 : decode cX11_move 0 = .ok (.aload_n 0, 1) := by decide +kernel
theorem dX11_move_1 : decode cX11_move 1 = .ok (.getfield 12, 3) := by decide +kernel
theorem dX11_move_4 : decode cX11_move 4 = .ok (.iload_n 1, 1) := by decide +kernel
theorem dX11_move_5 : decode cX11_move 5 = .ok (.invokevirtual 106, 3) := by decide +kernel
theorem dX11_move_8 : decode cX11_move 8 = .ok (.ifCond .eq 10, 3) := by decide +kernel
theorem dX11_move_11 : decode cX11_move 11 = .ok (.iload_n 2, 1) := by decide +kernel
theorem dX11_move_12 : decode cX11_move 12 = .ok (.invokestatic 91, 3) := by decide +kernel
theorem dX11_move_15 : decode cX11_move 15 = .ok (.ifCond .ne 10, 3) := by decide +kernel
theorem dX11_move_18 : decode cX11_move 18 = .ok (.aload_n 0, 1) := by decide +kernel
theorem dX11_move_19 : decode cX11_move 19 = .ok (.bipush (-2), 2) := by decide +kernel
theorem dX11_move_21 : decode cX11_move 21 = .ok (.invokevirtual 77, 3) := by decide +kernel
theorem dX11_move_24 : decode cX11_move 24 = .ok (.ireturn, 1) := by decide +kernel
theorem dX11_move_25 : decode cX11_move 25 = .ok (.aload_n 0, 1) := by decide +kernel
theorem dX11_move_26 : decode cX11_move 26 = .ok (.getfield 12, 3) := by decide +kernel
theorem dX11_move_29 : decode cX11_move 29 = .ok (.invokevirtual 109, 3) := by decide +kernel
theorem dX11_move_32 : decode cX11_move 32 = .ok (.aload_n 0, 1) := by decide +kernel
theorem dX11_move_33 : decode cX11_move 33 = .ok (.getfield 12, 3) := by decide +kernel
theorem dX11_move_36 : decode cX11_move 36 = .ok (.getfield 112, 3) := by decide +kernel
theorem dX11_move_39 : decode cX11_move 39 = .ok (.iload_n 1, 1) := by decide +kernel
theorem dX11_move_40 : decode cX11_move 40 = .ok (.iaload, 1) := by decide +kernel
theorem dX11_move_41 : decode cX11_move 41 = .ok (.istore_n 3, 1) := by decide +kernel
theorem dX11_move_42 : decode cX11_move 42 = .ok (.aload_n 0, 1) := by decide +kernel
theorem dX11_move_43 : decode cX11_move 43 = .ok (.getfield 12, 3) := by decide +kernel
theorem dX11_move_46 : decode cX11_move 46 = .ok (.getfield 112, 3) := by decide +kernel
theorem dX11_move_49 : decode cX11_move 49 = .ok (.iload_n 1, 1) := by decide +kernel
theorem dX11_move_50 : decode cX11_move 50 = .ok (.iload_n 2, 1) := by decide +kernel
theorem dX11_move_51 : decode cX11_move 51 = .ok (.iastore, 1) := by decide +kernel
theorem dX11_move_52 : decode cX11_move 52 = .ok (.iload_n 3, 1) := by decide +kernel
theorem dX11_move_53 : decode cX11_move 53 = .ok (.ireturn, 1) := by decide +kernel
theorem dX11_light_0 : decode cX11_light 0 = .ok (.aload_n 0, 1) := by decide +kernel
theorem dX11_light_1 : decode cX11_light 1 = .ok (.getfield 12, 3) := by decide +kernel
theorem dX11_light_4 : decode cX11_light 4 = .ok (.iload_n 1, 1) := by decide +kernel
theorem dX11_light_5 : decode cX11_light 5 = .ok (.invokevirtual 106, 3) := by decide +kernel
theorem dX11_light_8 : decode cX11_light 8 = .ok (.ifCond .eq 12, 3) := by decide +kernel
theorem dX11_light_11 : decode cX11_light 11 = .ok (.iload_n 2, 1) := by decide +kernel
theorem dX11_light_12 : decode cX11_light 12 = .ok (.iconst 0, 1) := by decide +kernel
theorem dX11_light_13 : decode cX11_light 13 = .ok (.iconst 1, 1) := by decide +kernel
theorem dX11_light_14 : decode cX11_light 14 = .ok (.invokestatic 73, 3) := by decide +kernel
theorem dX11_light_17 : decode cX11_light 17 = .ok (.ifCond .ne 10, 3) := by decide +kernel
theorem dX11_light_20 : decode cX11_light 20 = .ok (.aload_n 0, 1) := by decide +kernel
theorem dX11_light_21 : decode cX11_light 21 = .ok (.bipush (-2), 2) := by decide +kernel
theorem dX11_light_23 : decode cX11_light 23 = .ok (.invokevirtual 77, 3) := by decide +kernel
theorem dX11_light_26 : decode cX11_light 26 = .ok (.ireturn, 1) := by decide +kernel
theorem dX11_light_27 : decode cX11_light 27 = .ok (.aload_n 0, 1) := by decide +kernel
theorem dX11_light_28 : decode cX11_light 28 = .ok (.getfield 12, 3) := by decide +kernel
theorem dX11_light_31 : decode cX11_light 31 = .ok (.iload_n 1, 1) := by decide +kernel
theorem dX11_light_32 : decode cX11_light 32 = .ok (.invokevirtual 116, 3) := by decide +kernel
theorem dX11_light_35 : decode cX11_light 35 = .ok (.iload_n 2, 1) := by decide +kernel
theorem dX11_light_36 : decode cX11_light 36 = .ok (.if_icmp .ne 8, 3) := by decide +kernel
theorem dX11_light_39 : decode cX11_light 39 = .ok (.aload_n 0, 1) := by decide +kernel
theorem dX11_light_40 : decode cX11_light 40 = .ok (.invokevirtual 119, 3) := by decide +kernel
theorem dX11_light_43 : decode cX11_light 43 = .ok (.ireturn, 1) := by decide +kernel
theorem dX11_light_44 : decode cX11_light 44 = .ok (.aload_n 0, 1) := by decide +kernel
theorem dX11_light_45 : decode cX11_light 45 = .ok (.getfield 12, 3) := by decide +kernel
theorem dX11_light_48 : decode cX11_light 48 = .ok (.invokevirtual 109, 3) := by decide +kernel
theorem dX11_light_51 : decode cX11_light 51 = .ok (.aload_n 0, 1) := by decide +kernel
theorem dX11_light_52 : decode cX11_light 52 = .ok (.getfield 12, 3) := by decide +kernel
theorem dX11_light_55 : decode cX11_light 55 = .ok (.aload_n 0, 1) := by decide +kernel
theorem dX11_light_56 : decode cX11_light 56 = .ok (.getfield 12, 3) := by decide +kernel
theorem dX11_light_59 : decode cX11_light 59 = .ok (.getfield 122, 3) := by decide +kernel
theorem dX11_light_62 : decode cX11_light 62 = .ok (.iconst 1, 1) := by decide +kernel
theorem dX11_light_63 : decode cX11_light 63 = .ok (.iload_n 1, 1) := by decide +kernel
theorem dX11_light_64 : decode cX11_light 64 = .ok (.ishl, 1) := by decide +kernel
theorem dX11_light_65 : decode cX11_light 65 = .ok (.ixor, 1) := by decide +kernel
theorem dX11_light_66 : decode cX11_light 66 = .ok (.putfield 122, 3) := by decide +kernel
theorem dX11_light_69 : decode cX11_light 69 = .ok (.iconst 1, 1) := by decide +kernel
theorem dX11_light_70 : decode cX11_light 70 = .ok (.ireturn, 1) := by decide +kernel
