theorem dX12_acresOf_0 : decode cX12_acresOf 0 = .ok (.iconst 0, 1) := by decide +kernel
theorem dX12_acresOf_1 : decode cX12_acresOf 1 = .ok (.istore_n 3, 1) := by decide +kernel
theorem dX12_acresOf_2 : decode cX12_acresOf 2 = .ok (.iconst 0, 1) := by decide +kernel
theorem dX12_acresOf_3 : decode cX12_acresOf 3 = .ok (.istore 4, 2) := by decide +kernel
theorem dX12_acresOf_5 : decode cX12_acresOf 5 = .ok (.iload 4, 2) := by decide +kernel
theorem dX12_acresOf_7 : decode cX12_acresOf 7 = .ok (.bipush 64, 2) := by decide +kernel
theorem dX12_acresOf_9 : decode cX12_acresOf 9 = .ok (.if_icmp .ge 28, 3) := by decide +kernel
theorem dX12_acresOf_12 : decode cX12_acresOf 12 = .ok (.iload_n 3, 1) := by decide +kernel
theorem dX12_acresOf_13 : decode cX12_acresOf 13 = .ok (.aload_n 0, 1) := by decide +kernel
theorem dX12_acresOf_14 : decode cX12_acresOf 14 = .ok (.iload 4, 2) := by decide +kernel
theorem dX12_acresOf_16 : decode cX12_acresOf 16 = .ok (.iload_n 2, 1) := by decide +kernel
theorem dX12_acresOf_17 : decode cX12_acresOf 17 = .ok (.invokevirtual 146, 3) := by decide +kernel
theorem dX12_acresOf_20 : decode cX12_acresOf 20 = .ok (.iload_n 1, 1) := by decide +kernel
theorem dX12_acresOf_21 : decode cX12_acresOf 21 = .ok (.if_icmp .ne 7, 3) := by decide +kernel
theorem dX12_acresOf_24 : decode cX12_acresOf 24 = .ok (.iconst 1, 1) := by decide +kernel
theorem dX12_acresOf_25 : decode cX12_acresOf 25 = .ok (.goto 4, 3) := by decide +kernel
theorem dX12_acresOf_28 : decode cX12_acresOf 28 = .ok (.iconst 0, 1) := by decide +kernel
theorem dX12_acresOf_29 : decode cX12_acresOf 29 = .ok (.iadd, 1) := by decide +kernel
theorem dX12_acresOf_30 : decode cX12_acresOf 30 = .ok (.istore_n 3, 1) := by decide +kernel
theorem dX12_acresOf_31 : decode cX12_acresOf 31 = .ok (.iinc 4 1, 3) := by decide +kernel
theorem dX12_acresOf_34 : decode cX12_acresOf 34 = .ok (.goto (-29), 3) := by decide +kernel
theorem dX12_acresOf_37 : decode cX12_acresOf 37 = .ok (.iload_n 3, 1) := by decide +kernel
theorem dX12_acresOf_38 : decode cX12_acresOf 38 = .ok (.ireturn, 1) := by decide +kernel
theorem dX12_of_0 : decode cX12_of 0 = .ok (.aload_n 0, 1) := by decide +kernel
theorem dX12_of_1 : decode cX12_of 1 = .ok (.iload_n 1, 1) := by decide +kernel
theorem dX12_of_2 : decode cX12_of 2 = .ok (.invokevirtual 108, 3) := by decide +kernel
theorem dX12_of_5 : decode cX12_of 5 = .ok (.ifCond .eq 15, 3) := by decide +kernel
theorem dX12_of_8 : decode cX12_of 8 = .ok (.iload_n 2, 1) := by decide +kernel
theorem dX12_of_9 : decode cX12_of 9 = .ok (.i2l, 1) := by decide +kernel
theorem dX12_of_10 : decode cX12_of 10 = .ok (.lconst 0, 1) := by decide +kernel
theorem dX12_of_11 : decode cX12_of 11 = .ok (.ldc2_w 149, 3) := by decide +kernel
theorem dX12_of_14 : decode cX12_of 14 = .ok (.invokestatic 61, 3) := by decide +kernel
theorem dX12_of_17 : decode cX12_of 17 = .ok (.ifCond .ne 10, 3) := by decide +kernel
theorem dX12_of_20 : decode cX12_of 20 = .ok (.aload_n 0, 1) := by decide +kernel
theorem dX12_of_21 : decode cX12_of 21 = .ok (.bipush (-2), 2) := by decide +kernel
theorem dX12_of_23 : decode cX12_of 23 = .ok (.invokevirtual 75, 3) := by decide +kernel
theorem dX12_of_26 : decode cX12_of 26 = .ok (.ireturn, 1) := by decide +kernel
theorem dX12_of_27 : decode cX12_of 27 = .ok (.iload_n 2, 1) := by decide +kernel
theorem dX12_of_28 : decode cX12_of 28 = .ok (.iconst 5, 1) := by decide +kernel
theorem dX12_of_29 : decode cX12_of 29 = .ok (.if_icmp .ne 16, 3) := by decide +kernel
theorem dX12_of_32 : decode cX12_of 32 = .ok (.aload_n 0, 1) := by decide +kernel
theorem dX12_of_33 : decode cX12_of 33 = .ok (.getfield 7, 3) := by decide +kernel
theorem dX12_of_36 : decode cX12_of 36 = .ok (.iconst 2, 1) := by decide +kernel
theorem dX12_of_37 : decode cX12_of 37 = .ok (.iaload, 1) := by decide +kernel
theorem dX12_of_38 : decode cX12_of 38 = .ok (.iload_n 1, 1) := by decide +kernel
theorem dX12_of_39 : decode cX12_of 39 = .ok (.ishr, 1) := by decide +kernel
theorem dX12_of_40 : decode cX12_of 40 = .ok (.iconst 1, 1) := by decide +kernel
theorem dX12_of_41 : decode cX12_of 41 = .ok (.iand, 1) := by decide +kernel
theorem dX12_of_42 : decode cX12_of 42 = .ok (.goto 33, 3) := by decide +kernel
theorem dX12_of_45 : decode cX12_of 45 = .ok (.iload_n 2, 1) := by decide +kernel
theorem dX12_of_46 : decode cX12_of 46 = .ok (.bipush 6, 2) := by decide +kernel
theorem dX12_of_48 : decode cX12_of 48 = .ok (.if_icmp .ne 21, 3) := by decide +kernel
theorem dX12_of_51 : decode cX12_of 51 = .ok (.aload_n 0, 1) := by decide +kernel
theorem dX12_of_52 : decode cX12_of 52 = .ok (.iload_n 1, 1) := by decide +kernel
theorem dX12_of_53 : decode cX12_of 53 = .ok (.iconst 0, 1) := by decide +kernel
theorem dX12_of_54 : decode cX12_of 54 = .ok (.invokevirtual 104, 3) := by decide +kernel
theorem dX12_of_57 : decode cX12_of 57 = .ok (.aload_n 0, 1) := by decide +kernel
theorem dX12_of_58 : decode cX12_of 58 = .ok (.iload_n 1, 1) := by decide +kernel
theorem dX12_of_59 : decode cX12_of 59 = .ok (.iconst 4, 1) := by decide +kernel
theorem dX12_of_60 : decode cX12_of 60 = .ok (.invokevirtual 104, 3) := by decide +kernel
theorem dX12_of_63 : decode cX12_of 63 = .ok (.invokestatic 130, 3) := by decide +kernel
theorem dX12_of_66 : decode cX12_of 66 = .ok (.goto 9, 3) := by decide +kernel
theorem dX12_of_69 : decode cX12_of 69 = .ok (.aload_n 0, 1) := by decide +kernel
theorem dX12_of_70 : decode cX12_of 70 = .ok (.iload_n 1, 1) := by decide +kernel
theorem dX12_of_71 : decode cX12_of 71 = .ok (.iload_n 2, 1) := by decide +kernel
theorem dX12_of_72 : decode cX12_of 72 = .ok (.invokevirtual 104, 3) := by decide +kernel
theorem dX12_of_75 : decode cX12_of 75 = .ok (.ireturn, 1) := by decide +kernel
theorem dX12_shines_0 : decode cX12_shines 0 = .ok (.aload_n 0, 1) := by decide +kernel
theorem dX12_shines_1 : decode cX12_shines 1 = .ok (.iload_n 1, 1) := by decide +kernel
theorem dX12_shines_2 : decode cX12_shines 2 = .ok (.invokevirtual 108, 3) := by decide +kernel
theorem dX12_shines_5 : decode cX12_shines 5 = .ok (.ifCond .eq 17, 3) := by decide +kernel
theorem dX12_shines_8 : decode cX12_shines 8 = .ok (.iload_n 2, 1) := by decide +kernel
theorem dX12_shines_9 : decode cX12_shines 9 = .ok (.invokestatic 85, 3) := by decide +kernel
theorem dX12_shines_12 : decode cX12_shines 12 = .ok (.ifCond .eq 10, 3) := by decide +kernel
theorem dX12_shines_15 : decode cX12_shines 15 = .ok (.iload_n 3, 1) := by decide +kernel
theorem dX12_shines_16 : decode cX12_shines 16 = .ok (.invokestatic 151, 3) := by decide +kernel
theorem dX12_shines_19 : decode cX12_shines 19 = .ok (.ifCond .ne 10, 3) := by decide +kernel
theorem dX12_shines_22 : decode cX12_shines 22 = .ok (.aload_n 0, 1) := by decide +kernel
theorem dX12_shines_23 : decode cX12_shines 23 = .ok (.bipush (-2), 2) := by decide +kernel
theorem dX12_shines_25 : decode cX12_shines 25 = .ok (.invokevirtual 75, 3) := by decide +kernel
theorem dX12_shines_28 : decode cX12_shines 28 = .ok (.ireturn, 1) := by decide +kernel
theorem dX12_shines_29 : decode cX12_shines 29 = .ok (.aload_n 0, 1) := by decide +kernel
theorem dX12_shines_30 : decode cX12_shines 30 = .ok (.invokevirtual 154, 3) := by decide +kernel
theorem dX12_shines_33 : decode cX12_shines 33 = .ok (.aload_n 0, 1) := by decide +kernel
theorem dX12_shines_34 : decode cX12_shines 34 = .ok (.iload_n 1, 1) := by decide +kernel
theorem dX12_shines_35 : decode cX12_shines 35 = .ok (.iload_n 2, 1) := by decide +kernel
theorem dX12_shines_36 : decode cX12_shines 36 = .ok (.iload_n 3, 1) := by decide +kernel
theorem dX12_shines_37 : decode cX12_shines 37 = .ok (.invokevirtual 140, 3) := by decide +kernel
theorem dX12_shines_40 : decode cX12_shines 40 = .ok (.ireturn, 1) := by decide +kernel
theorem dX12_cell_0 : decode cX12_cell 0 = .ok (.iload_n 1, 1) := by decide +kernel
theorem dX12_cell_1 : decode cX12_cell 1 = .ok (.invokestatic 85, 3) := by decide +kernel
theorem dX12_cell_4 : decode cX12_cell 4 = .ok (.ifCond .eq 22, 3) := by decide +kernel
theorem dX12_cell_7 : decode cX12_cell 7 = .ok (.iload_n 2, 1) := by decide +kernel
theorem dX12_cell_8 : decode cX12_cell 8 = .ok (.invokestatic 151, 3) := by decide +kernel
theorem dX12_cell_11 : decode cX12_cell 11 = .ok (.ifCond .eq 15, 3) := by decide +kernel
theorem dX12_cell_14 : decode cX12_cell 14 = .ok (.iload_n 3, 1) := by decide +kernel
theorem dX12_cell_15 : decode cX12_cell 15 = .ok (.i2l, 1) := by decide +kernel
theorem dX12_cell_16 : decode cX12_cell 16 = .ok (.lconst 0, 1) := by decide +kernel
theorem dX12_cell_17 : decode cX12_cell 17 = .ok (.ldc2_w 157, 3) := by decide +kernel
theorem dX12_cell_20 : decode cX12_cell 20 = .ok (.invokestatic 61, 3) := by decide +kernel
theorem dX12_cell_23 : decode cX12_cell 23 = .ok (.ifCond .ne 10, 3) := by decide +kernel
theorem dX12_cell_26 : decode cX12_cell 26 = .ok (.aload_n 0, 1) := by decide +kernel
theorem dX12_cell_27 : decode cX12_cell 27 = .ok (.bipush (-10), 2) := by decide +kernel
theorem dX12_cell_29 : decode cX12_cell 29 = .ok (.invokevirtual 75, 3) := by decide +kernel
theorem dX12_cell_32 : decode cX12_cell 32 = .ok (.ireturn, 1) := by decide +kernel
theorem dX12_cell_33 : decode cX12_cell 33 = .ok (.aload_n 0, 1) := by decide +kernel
theorem dX12_cell_34 : decode cX12_cell 34 = .ok (.invokevirtual 154, 3) := by decide +kernel
theorem dX12_cell_37 : decode cX12_cell 37 = .ok (.aload_n 0, 1) := by decide +kernel
theorem dX12_cell_38 : decode cX12_cell 38 = .ok (.iload_n 1, 1) := by decide +kernel
theorem dX12_cell_39 : decode cX12_cell 39 = .ok (.iload_n 2, 1) := by decide +kernel
theorem dX12_cell_40 : decode cX12_cell 40 = .ok (.invokevirtual 146, 3) := by decide +kernel
theorem dX12_cell_43 : decode cX12_cell 43 = .ok (.istore 4, 2) := by decide +kernel
theorem dX12_cell_45 : decode cX12_cell 45 = .ok (.iload_n 3, 1) := by decide +kernel
theorem dX12_cell_46 : decode cX12_cell 46 = .ok (.ifCond .ne 12, 3) := by decide +kernel
theorem dX12_cell_49 : decode cX12_cell 49 = .ok (.aload_n 0, 1) := by decide +kernel
theorem dX12_cell_50 : decode cX12_cell 50 = .ok (.iload_n 1, 1) := by decide +kernel
theorem dX12_cell_51 : decode cX12_cell 51 = .ok (.iload_n 2, 1) := by decide +kernel
theorem dX12_cell_52 : decode cX12_cell 52 = .ok (.invokevirtual 143, 3) := by decide +kernel
theorem dX12_cell_55 : decode cX12_cell 55 = .ok (.goto 36, 3) := by decide +kernel
theorem dX12_cell_58 : decode cX12_cell 58 = .ok (.iload_n 3, 1) := by decide +kernel
theorem dX12_cell_59 : decode cX12_cell 59 = .ok (.iconst 1, 1) := by decide +kernel
theorem dX12_cell_60 : decode cX12_cell 60 = .ok (.if_icmp .ne 19, 3) := by decide +kernel
theorem dX12_cell_63 : decode cX12_cell 63 = .ok (.iload 4, 2) := by decide +kernel
theorem dX12_cell_65 : decode cX12_cell 65 = .ok (.bipush (-2), 2) := by decide +kernel
theorem dX12_cell_67 : decode cX12_cell 67 = .ok (.if_icmp .ne 7, 3) := by decide +kernel
theorem dX12_cell_70 : decode cX12_cell 70 = .ok (.iconst (-1), 1) := by decide +kernel
theorem dX12_cell_71 : decode cX12_cell 71 = .ok (.goto 20, 3) := by decide +kernel
theorem dX12_cell_74 : decode cX12_cell 74 = .ok (.iload 4, 2) := by decide +kernel
theorem dX12_cell_76 : decode cX12_cell 76 = .ok (.goto 15, 3) := by decide +kernel
theorem dX12_cell_79 : decode cX12_cell 79 = .ok (.iload 4, 2) := by decide +kernel
theorem dX12_cell_81 : decode cX12_cell 81 = .ok (.bipush (-2), 2) := by decide +kernel
theorem dX12_cell_83 : decode cX12_cell 83 = .ok (.if_icmp .ne 7, 3) := by decide +kernel
theorem dX12_cell_86 : decode cX12_cell 86 = .ok (.iconst 1, 1) := by decide +kernel
theorem dX12_cell_87 : decode cX12_cell 87 = .ok (.goto 4, 3) := by decide +kernel
theorem dX12_cell_90 : decode cX12_cell 90 = .ok (.iconst 0, 1) := by decide +kernel
theorem dX12_cell_91 : decode cX12_cell 91 = .ok (.ireturn, 1) := by decide +kernel
theorem dX12_listOf_0 : decode cX12_listOf 0 = .ok (.iconst 0, 1) := by decide +kernel
theorem dX12_listOf_1 : decode cX12_listOf 1 = .ok (.istore 4, 2) := by decide +kernel
theorem dX12_listOf_3 : decode cX12_listOf 3 = .ok (.bipush (-5), 2) := by decide +kernel
theorem dX12_listOf_5 : decode cX12_listOf 5 = .ok (.istore 5, 2) := by decide +kernel
theorem dX12_listOf_7 : decode cX12_listOf 7 = .ok (.aload_n 0, 1) := by decide +kernel
theorem dX12_listOf_8 : decode cX12_listOf 8 = .ok (.invokevirtual 154, 3) := by decide +kernel
theorem dX12_listOf_11 : decode cX12_listOf 11 = .ok (.iconst 0, 1) := by decide +kernel
theorem dX12_listOf_12 : decode cX12_listOf 12 = .ok (.istore 6, 2) := by decide +kernel
theorem dX12_listOf_14 : decode cX12_listOf 14 = .ok (.iload 6, 2) := by decide +kernel
theorem dX12_listOf_16 : decode cX12_listOf 16 = .ok (.bipush 64, 2) := by decide +kernel
theorem dX12_listOf_18 : decode cX12_listOf 18 = .ok (.if_icmp .ge 38, 3) := by decide +kernel
theorem dX12_listOf_21 : decode cX12_listOf 21 = .ok (.aload_n 0, 1) := by decide +kernel
theorem dX12_listOf_22 : decode cX12_listOf 22 = .ok (.iload 6, 2) := by decide +kernel
theorem dX12_listOf_24 : decode cX12_listOf 24 = .ok (.iload_n 2, 1) := by decide +kernel
theorem dX12_listOf_25 : decode cX12_listOf 25 = .ok (.invokevirtual 146, 3) := by decide +kernel
theorem dX12_listOf_28 : decode cX12_listOf 28 = .ok (.iload_n 1, 1) := by decide +kernel
theorem dX12_listOf_29 : decode cX12_listOf 29 = .ok (.if_icmp .ne 21, 3) := by decide +kernel
theorem dX12_listOf_32 : decode cX12_listOf 32 = .ok (.iload 4, 2) := by decide +kernel
theorem dX12_listOf_34 : decode cX12_listOf 34 = .ok (.iload_n 3, 1) := by decide +kernel
theorem dX12_listOf_35 : decode cX12_listOf 35 = .ok (.if_icmp .ne 8, 3) := by decide +kernel
theorem dX12_listOf_38 : decode cX12_listOf 38 = .ok (.iload 6, 2) := by decide +kernel
theorem dX12_listOf_40 : decode cX12_listOf 40 = .ok (.goto 5, 3) := by decide +kernel
theorem dX12_listOf_43 : decode cX12_listOf 43 = .ok (.iload 5, 2) := by decide +kernel
theorem dX12_listOf_45 : decode cX12_listOf 45 = .ok (.istore 5, 2) := by decide +kernel
theorem dX12_listOf_47 : decode cX12_listOf 47 = .ok (.iinc 4 1, 3) := by decide +kernel
theorem dX12_listOf_50 : decode cX12_listOf 50 = .ok (.iinc 6 1, 3) := by decide +kernel
theorem dX12_listOf_53 : decode cX12_listOf 53 = .ok (.goto (-39), 3) := by decide +kernel
theorem dX12_listOf_56 : decode cX12_listOf 56 = .ok (.iload_n 3, 1) := by decide +kernel
theorem dX12_listOf_57 : decode cX12_listOf 57 = .ok (.iconst (-1), 1) := by decide +kernel
theorem dX12_listOf_58 : decode cX12_listOf 58 = .ok (.if_icmp .ne 8, 3) := by decide +kernel
theorem dX12_listOf_61 : decode cX12_listOf 61 = .ok (.iload 4, 2) := by decide +kernel
theorem dX12_listOf_63 : decode cX12_listOf 63 = .ok (.goto 5, 3) := by decide +kernel
theorem dX12_listOf_66 : decode cX12_listOf 66 = .ok (.iload 5, 2) := by decide +kernel
theorem dX12_listOf_68 : decode cX12_listOf 68 = .ok (.ireturn, 1) := by decide +kernel
theorem dX12_acres_0 : decode cX12_acres 0 = .ok (.iload_n 1, 1) := by decide +kernel
theorem dX12_acres_1 : decode cX12_acres 1 = .ok (.invokestatic 92, 3) := by decide +kernel
theorem dX12_acres_4 : decode cX12_acres 4 = .ok (.ifCond .eq 25, 3) := by decide +kernel
theorem dX12_acres_7 : decode cX12_acres 7 = .ok (.iload_n 2, 1) := by decide +kernel
theorem dX12_acres_8 : decode cX12_acres 8 = .ok (.invokestatic 151, 3) := by decide +kernel
theorem dX12_acres_11 : decode cX12_acres 11 = .ok (.ifCond .eq 18, 3) := by decide +kernel
theorem dX12_acres_14 : decode cX12_acres 14 = .ok (.iload_n 3, 1) := by decide +kernel
theorem dX12_acres_15 : decode cX12_acres 15 = .ok (.iconst (-1), 1) := by decide +kernel
theorem dX12_acres_16 : decode cX12_acres 16 = .ok (.if_icmp .lt 13, 3) := by decide +kernel
theorem dX12_acres_19 : decode cX12_acres 19 = .ok (.aload_n 0, 1) := by decide +kernel
theorem dX12_acres_20 : decode cX12_acres 20 = .ok (.iload_n 1, 1) := by decide +kernel
theorem dX12_acres_21 : decode cX12_acres 21 = .ok (.iload_n 2, 1) := by decide +kernel
theorem dX12_acres_22 : decode cX12_acres 22 = .ok (.iload_n 3, 1) := by decide +kernel
theorem dX12_acres_23 : decode cX12_acres 23 = .ok (.invokevirtual 159, 3) := by decide +kernel
theorem dX12_acres_26 : decode cX12_acres 26 = .ok (.goto 9, 3) := by decide +kernel
theorem dX12_acres_29 : decode cX12_acres 29 = .ok (.aload_n 0, 1) := by decide +kernel
theorem dX12_acres_30 : decode cX12_acres 30 = .ok (.bipush (-10), 2) := by decide +kernel
theorem dX12_acres_32 : decode cX12_acres 32 = .ok (.invokevirtual 75, 3) := by decide +kernel
theorem dX12_acres_35 : decode cX12_acres 35 = .ok (.ireturn, 1) := by decide +kernel
theorem dX12_hedges_0 : decode cX12_hedges 0 = .ok (.iload_n 1, 1) := by decide +kernel
theorem dX12_hedges_1 : decode cX12_hedges 1 = .ok (.invokestatic 151, 3) := by decide +kernel
theorem dX12_hedges_4 : decode cX12_hedges 4 = .ok (.ifCond .eq 19, 3) := by decide +kernel
theorem dX12_hedges_7 : decode cX12_hedges 7 = .ok (.iload_n 2, 1) := by decide +kernel
theorem dX12_hedges_8 : decode cX12_hedges 8 = .ok (.iconst (-1), 1) := by decide +kernel
theorem dX12_hedges_9 : decode cX12_hedges 9 = .ok (.if_icmp .lt 14, 3) := by decide +kernel
theorem dX12_hedges_12 : decode cX12_hedges 12 = .ok (.aload_n 0, 1) := by decide +kernel
theorem dX12_hedges_13 : decode cX12_hedges 13 = .ok (.bipush (-2), 2) := by decide +kernel
theorem dX12_hedges_15 : decode cX12_hedges 15 = .ok (.iload_n 1, 1) := by decide +kernel
theorem dX12_hedges_16 : decode cX12_hedges 16 = .ok (.iload_n 2, 1) := by decide +kernel
theorem dX12_hedges_17 : decode cX12_hedges 17 = .ok (.invokevirtual 159, 3) := by decide +kernel
theorem dX12_hedges_20 : decode cX12_hedges 20 = .ok (.goto 9, 3) := by decide +kernel
theorem dX12_hedges_23 : decode cX12_hedges 23 = .ok (.aload_n 0, 1) := by decide +kernel
theorem dX12_hedges_24 : decode cX12_hedges 24 = .ok (.bipush (-10), 2) := by decide +kernel
theorem dX12_hedges_26 : decode cX12_hedges 26 = .ok (.invokevirtual 75, 3) := by decide +kernel
theorem dX12_hedges_29 : decode cX12_hedges 29 = .ok (.ireturn, 1) := by decide +kernel
theorem dX12_dark_0 : decode cX12_dark 0 = .ok (.iload_n 1, 1) := by decide +kernel
theorem dX12_dark_1 : decode cX12_dark 1 = .ok (.invokestatic 85, 3) := by decide +kernel
theorem dX12_dark_4 : decode cX12_dark 4 = .ok (.ifCond .eq 17, 3) := by decide +kernel
theorem dX12_dark_7 : decode cX12_dark 7 = .ok (.iload_n 2, 1) := by decide +kernel
theorem dX12_dark_8 : decode cX12_dark 8 = .ok (.invokestatic 151, 3) := by decide +kernel
theorem dX12_dark_11 : decode cX12_dark 11 = .ok (.ifCond .eq 10, 3) := by decide +kernel
theorem dX12_dark_14 : decode cX12_dark 14 = .ok (.iload_n 3, 1) := by decide +kernel
theorem dX12_dark_15 : decode cX12_dark 15 = .ok (.invokestatic 89, 3) := by decide +kernel
theorem dX12_dark_18 : decode cX12_dark 18 = .ok (.ifCond .ne 10, 3) := by decide +kernel
theorem dX12_dark_21 : decode cX12_dark 21 = .ok (.aload_n 0, 1) := by decide +kernel
theorem dX12_dark_22 : decode cX12_dark 22 = .ok (.bipush (-2), 2) := by decide +kernel
theorem dX12_dark_24 : decode cX12_dark 24 = .ok (.invokevirtual 75, 3) := by decide +kernel
theorem dX12_dark_27 : decode cX12_dark 27 = .ok (.ireturn, 1) := by decide +kernel
theorem dX12_dark_28 : decode cX12_dark 28 = .ok (.aload_n 0, 1) := by decide +kernel
theorem dX12_dark_29 : decode cX12_dark 29 = .ok (.invokevirtual 154, 3) := by decide +kernel
theorem dX12_dark_32 : decode cX12_dark 32 = .ok (.iload_n 2, 1) := by decide +kernel
theorem dX12_dark_33 : decode cX12_dark 33 = .ok (.istore 4, 2) := by decide +kernel
theorem dX12_dark_35 : decode cX12_dark 35 = .ok (.iload 4, 2) := by decide +kernel
theorem dX12_dark_37 : decode cX12_dark 37 = .ok (.bipush 12, 2) := by decide +kernel
theorem dX12_dark_39 : decode cX12_dark 39 = .ok (.if_icmp .ge 20, 3) := by decide +kernel
theorem dX12_dark_42 : decode cX12_dark 42 = .ok (.aload_n 0, 1) := by decide +kernel
theorem dX12_dark_43 : decode cX12_dark 43 = .ok (.iload_n 1, 1) := by decide +kernel
theorem dX12_dark_44 : decode cX12_dark 44 = .ok (.iload 4, 2) := by decide +kernel
theorem dX12_dark_46 : decode cX12_dark 46 = .ok (.invokevirtual 143, 3) := by decide +kernel
theorem dX12_dark_49 : decode cX12_dark 49 = .ok (.iload_n 3, 1) := by decide +kernel
theorem dX12_dark_50 : decode cX12_dark 50 = .ok (.if_icmp .lt 9, 3) := by decide +kernel
theorem dX12_dark_53 : decode cX12_dark 53 = .ok (.iinc 4 1, 3) := by decide +kernel
theorem dX12_dark_56 : decode cX12_dark 56 = .ok (.goto (-21), 3) := by decide +kernel
theorem dX12_dark_59 : decode cX12_dark 59 = .ok (.iload 4, 2) := by decide +kernel
theorem dX12_dark_61 : decode cX12_dark 61 = .ok (.ireturn, 1) := by decide +kernel
theorem dX12_want_0 : decode cX12_want 0 = .ok (.iload_n 1, 1) := by decide +kernel
theorem dX12_want_1 : decode cX12_want 1 = .ok (.invokestatic 85, 3) := by decide +kernel
theorem dX12_want_4 : decode cX12_want 4 = .ok (.ifCond .ne 10, 3) := by decide +kernel
theorem dX12_want_7 : decode cX12_want 7 = .ok (.aload_n 0, 1) := by decide +kernel
theorem dX12_want_8 : decode cX12_want 8 = .ok (.bipush (-2), 2) := by decide +kernel
theorem dX12_want_10 : decode cX12_want 10 = .ok (.invokevirtual 75, 3) := by decide +kernel
theorem dX12_want_13 : decode cX12_want 13 = .ok (.ireturn, 1) := by decide +kernel
theorem dX12_want_14 : decode cX12_want 14 = .ok (.aload_n 0, 1) := by decide +kernel
theorem dX12_want_15 : decode cX12_want 15 = .ok (.getfield 7, 3) := by decide +kernel
theorem dX12_want_18 : decode cX12_want 18 = .ok (.iconst 3, 1) := by decide +kernel
theorem dX12_want_19 : decode cX12_want 19 = .ok (.iaload, 1) := by decide +kernel
theorem dX12_want_20 : decode cX12_want 20 = .ok (.bipush 6, 2) := by decide +kernel
theorem dX12_want_22 : decode cX12_want 22 = .ok (.if_icmp .ne 8, 3) := by decide +kernel
theorem dX12_want_25 : decode cX12_want 25 = .ok (.aload_n 0, 1) := by decide +kernel
theorem dX12_want_26 : decode cX12_want 26 = .ok (.invokevirtual 97, 3) := by decide +kernel
theorem dX12_want_29 : decode cX12_want 29 = .ok (.ireturn, 1) := by decide +kernel
theorem dX12_want_30 : decode cX12_want 30 = .ok (.aload_n 0, 1) := by decide +kernel
theorem dX12_want_31 : decode cX12_want 31 = .ok (.getfield 7, 3) := by decide +kernel
theorem dX12_want_34 : decode cX12_want 34 = .ok (.bipush 41, 2) := by decide +kernel
theorem dX12_want_36 : decode cX12_want 36 = .ok (.aload_n 0, 1) := by decide +kernel
theorem dX12_want_37 : decode cX12_want 37 = .ok (.getfield 7, 3) := by decide +kernel
theorem dX12_want_40 : decode cX12_want 40 = .ok (.iconst 3, 1) := by decide +kernel
theorem dX12_want_41 : decode cX12_want 41 = .ok (.iaload, 1) := by decide +kernel
theorem dX12_want_42 : decode cX12_want 42 = .ok (.iadd, 1) := by decide +kernel
theorem dX12_want_43 : decode cX12_want 43 = .ok (.iload_n 1, 1) := by decide +kernel
theorem dX12_want_44 : decode cX12_want 44 = .ok (.iastore, 1) := by decide +kernel
theorem dX12_want_45 : decode cX12_want 45 = .ok (.aload_n 0, 1) := by decide +kernel
theorem dX12_want_46 : decode cX12_want 46 = .ok (.getfield 7, 3) := by decide +kernel
theorem dX12_want_49 : decode cX12_want 49 = .ok (.iconst 3, 1) := by decide +kernel
theorem dX12_want_50 : decode cX12_want 50 = .ok (.dup2, 1) := by decide +kernel
theorem dX12_want_51 : decode cX12_want 51 = .ok (.iaload, 1) := by decide +kernel
theorem dX12_want_52 : decode cX12_want 52 = .ok (.iconst 1, 1) := by decide +kernel
theorem dX12_want_53 : decode cX12_want 53 = .ok (.iadd, 1) := by decide +kernel
theorem dX12_want_54 : decode cX12_want 54 = .ok (.iastore, 1) := by decide +kernel
theorem dX12_want_55 : decode cX12_want 55 = .ok (.aload_n 0, 1) := by decide +kernel
theorem dX12_want_56 : decode cX12_want 56 = .ok (.getfield 7, 3) := by decide +kernel
theorem dX12_want_59 : decode cX12_want 59 = .ok (.iconst 3, 1) := by decide +kernel
theorem dX12_want_60 : decode cX12_want 60 = .ok (.iaload, 1) := by decide +kernel
theorem dX12_want_61 : decode cX12_want 61 = .ok (.ireturn, 1) := by decide +kernel
theorem dX12_forget_0 : decode cX12_forget 0 = .ok (.aload_n 0, 1) := by decide +kernel
theorem dX12_forget_1 : decode cX12_forget 1 = .ok (.getfield 7, 3) := by decide +kernel
theorem dX12_forget_4 : decode cX12_forget 4 = .ok (.iconst 3, 1) := by decide +kernel
theorem dX12_forget_5 : decode cX12_forget 5 = .ok (.iaload, 1) := by decide +kernel
theorem dX12_forget_6 : decode cX12_forget 6 = .ok (.istore_n 1, 1) := by decide +kernel
theorem dX12_forget_7 : decode cX12_forget 7 = .ok (.aload_n 0, 1) := by decide +kernel
theorem dX12_forget_8 : decode cX12_forget 8 = .ok (.getfield 7, 3) := by decide +kernel
theorem dX12_forget_11 : decode cX12_forget 11 = .ok (.iconst 3, 1) := by decide +kernel
theorem dX12_forget_12 : decode cX12_forget 12 = .ok (.iconst 0, 1) := by decide +kernel
theorem dX12_forget_13 : decode cX12_forget 13 = .ok (.iastore, 1) := by decide +kernel
theorem dX12_forget_14 : decode cX12_forget 14 = .ok (.iload_n 1, 1) := by decide +kernel
theorem dX12_forget_15 : decode cX12_forget 15 = .ok (.ireturn, 1) := by decide +kernel
theorem dX12_areLight_0 : decode cX12_areLight 0 = .ok (.iconst 1, 1) := by decide +kernel
theorem dX12_areLight_1 : decode cX12_areLight 1 = .ok (.istore_n 3, 1) := by decide +kernel
theorem dX12_areLight_2 : decode cX12_areLight 2 = .ok (.iconst 0, 1) := by decide +kernel
theorem dX12_areLight_3 : decode cX12_areLight 3 = .ok (.istore 4, 2) := by decide +kernel
theorem dX12_areLight_5 : decode cX12_areLight 5 = .ok (.iload 4, 2) := by decide +kernel
theorem dX12_areLight_7 : decode cX12_areLight 7 = .ok (.aload_n 0, 1) := by decide +kernel
theorem dX12_areLight_8 : decode cX12_areLight 8 = .ok (.getfield 7, 3) := by decide +kernel
theorem dX12_areLight_11 : decode cX12_areLight 11 = .ok (.iconst 3, 1) := by decide +kernel
theorem dX12_areLight_12 : decode cX12_areLight 12 = .ok (.iaload, 1) := by decide +kernel
theorem dX12_areLight_13 : decode cX12_areLight 13 = .ok (.if_icmp .ge 38, 3) := by decide +kernel
theorem dX12_areLight_16 : decode cX12_areLight 16 = .ok (.iload_n 3, 1) := by decide +kernel
theorem dX12_areLight_17 : decode cX12_areLight 17 = .ok (.ifCond .eq 34, 3) := by decide +kernel
theorem dX12_areLight_20 : decode cX12_areLight 20 = .ok (.aload_n 0, 1) := by decide +kernel
theorem dX12_areLight_21 : decode cX12_areLight 21 = .ok (.aload_n 0, 1) := by decide +kernel
theorem dX12_areLight_22 : decode cX12_areLight 22 = .ok (.getfield 7, 3) := by decide +kernel
theorem dX12_areLight_25 : decode cX12_areLight 25 = .ok (.bipush 41, 2) := by decide +kernel
theorem dX12_areLight_27 : decode cX12_areLight 27 = .ok (.iload 4, 2) := by decide +kernel
theorem dX12_areLight_29 : decode cX12_areLight 29 = .ok (.iadd, 1) := by decide +kernel
theorem dX12_areLight_30 : decode cX12_areLight 30 = .ok (.iaload, 1) := by decide +kernel
theorem dX12_areLight_31 : decode cX12_areLight 31 = .ok (.iload_n 1, 1) := by decide +kernel
theorem dX12_areLight_32 : decode cX12_areLight 32 = .ok (.invokevirtual 143, 3) := by decide +kernel
theorem dX12_areLight_35 : decode cX12_areLight 35 = .ok (.iload_n 2, 1) := by decide +kernel
theorem dX12_areLight_36 : decode cX12_areLight 36 = .ok (.if_icmp .lt 7, 3) := by decide +kernel
theorem dX12_areLight_39 : decode cX12_areLight 39 = .ok (.iconst 1, 1) := by decide +kernel
theorem dX12_areLight_40 : decode cX12_areLight 40 = .ok (.goto 4, 3) := by decide +kernel
theorem dX12_areLight_43 : decode cX12_areLight 43 = .ok (.iconst 0, 1) := by decide +kernel
theorem dX12_areLight_44 : decode cX12_areLight 44 = .ok (.istore_n 3, 1) := by decide +kernel
theorem dX12_areLight_45 : decode cX12_areLight 45 = .ok (.iinc 4 1, 3) := by decide +kernel
theorem dX12_areLight_48 : decode cX12_areLight 48 = .ok (.goto (-43), 3) := by decide +kernel
theorem dX12_areLight_51 : decode cX12_areLight 51 = .ok (.iload_n 3, 1) := by decide +kernel
theorem dX12_areLight_52 : decode cX12_areLight 52 = .ok (.ireturn, 1) := by decide +kernel
theorem dX12_tallowOf_0 : decode cX12_tallowOf 0 = .ok (.iconst 0, 1) := by decide +kernel
theorem dX12_tallowOf_1 : decode cX12_tallowOf 1 = .ok (.istore_n 2, 1) := by decide +kernel
theorem dX12_tallowOf_2 : decode cX12_tallowOf 2 = .ok (.iconst 0, 1) := by decide +kernel
theorem dX12_tallowOf_3 : decode cX12_tallowOf 3 = .ok (.istore_n 3, 1) := by decide +kernel
theorem dX12_tallowOf_4 : decode cX12_tallowOf 4 = .ok (.iload_n 3, 1) := by decide +kernel
theorem dX12_tallowOf_5 : decode cX12_tallowOf 5 = .ok (.aload_n 0, 1) := by decide +kernel
theorem dX12_tallowOf_6 : decode cX12_tallowOf 6 = .ok (.invokevirtual 57, 3) := by decide +kernel
theorem dX12_tallowOf_9 : decode cX12_tallowOf 9 = .ok (.if_icmp .ge 31, 3) := by decide +kernel
theorem dX12_tallowOf_12 : decode cX12_tallowOf 12 = .ok (.iload_n 2, 1) := by decide +kernel
theorem dX12_tallowOf_13 : decode cX12_tallowOf 13 = .ok (.iload_n 1, 1) := by decide +kernel
theorem dX12_tallowOf_14 : decode cX12_tallowOf 14 = .ok (.iload_n 3, 1) := by decide +kernel
theorem dX12_tallowOf_15 : decode cX12_tallowOf 15 = .ok (.ishr, 1) := by decide +kernel
theorem dX12_tallowOf_16 : decode cX12_tallowOf 16 = .ok (.iconst 1, 1) := by decide +kernel
theorem dX12_tallowOf_17 : decode cX12_tallowOf 17 = .ok (.iand, 1) := by decide +kernel
theorem dX12_tallowOf_18 : decode cX12_tallowOf 18 = .ok (.iconst 1, 1) := by decide +kernel
theorem dX12_tallowOf_19 : decode cX12_tallowOf 19 = .ok (.if_icmp .ne 12, 3) := by decide +kernel
theorem dX12_tallowOf_22 : decode cX12_tallowOf 22 = .ok (.aload_n 0, 1) := by decide +kernel
theorem dX12_tallowOf_23 : decode cX12_tallowOf 23 = .ok (.iload_n 3, 1) := by decide +kernel
theorem dX12_tallowOf_24 : decode cX12_tallowOf 24 = .ok (.iconst 4, 1) := by decide +kernel
theorem dX12_tallowOf_25 : decode cX12_tallowOf 25 = .ok (.invokevirtual 104, 3) := by decide +kernel
theorem dX12_tallowOf_28 : decode cX12_tallowOf 28 = .ok (.goto 4, 3) := by decide +kernel
theorem dX12_tallowOf_31 : decode cX12_tallowOf 31 = .ok (.iconst 0, 1) := by decide +kernel
theorem dX12_tallowOf_32 : decode cX12_tallowOf 32 = .ok (.iadd, 1) := by decide +kernel
theorem dX12_tallowOf_33 : decode cX12_tallowOf 33 = .ok (.istore_n 2, 1) := by decide +kernel
theorem dX12_tallowOf_34 : decode cX12_tallowOf 34 = .ok (.iinc 3 1, 3) := by decide +kernel
theorem dX12_tallowOf_37 : decode cX12_tallowOf 37 = .ok (.goto (-33), 3) := by decide +kernel
theorem dX12_tallowOf_40 : decode cX12_tallowOf 40 = .ok (.iload_n 2, 1) := by decide +kernel
theorem dX12_tallowOf_41 : decode cX12_tallowOf 41 = .ok (.ireturn, 1) := by decide +kernel
theorem dX12_lighting_0 : decode cX12_lighting 0 = .ok (.iload_n 1, 1) := by decide +kernel
theorem dX12_lighting_1 : decode cX12_lighting 1 = .ok (.invokestatic 151, 3) := by decide +kernel
theorem dX12_lighting_4 : decode cX12_lighting 4 = .ok (.ifCond .eq 10, 3) := by decide +kernel
theorem dX12_lighting_7 : decode cX12_lighting 7 = .ok (.iload_n 2, 1) := by decide +kernel
theorem dX12_lighting_8 : decode cX12_lighting 8 = .ok (.invokestatic 89, 3) := by decide +kernel
theorem dX12_lighting_11 : decode cX12_lighting 11 = .ok (.ifCond .ne 10, 3) := by decide +kernel
theorem dX12_lighting_14 : decode cX12_lighting 14 = .ok (.aload_n 0, 1) := by decide +kernel
theorem dX12_lighting_15 : decode cX12_lighting 15 = .ok (.bipush (-2), 2) := by decide +kernel
theorem dX12_lighting_17 : decode cX12_lighting 17 = .ok (.invokevirtual 75, 3) := by decide +kernel
theorem dX12_lighting_20 : decode cX12_lighting 20 = .ok (.ireturn, 1) := by decide +kernel
theorem dX12_lighting_21 : decode cX12_lighting 21 = .ok (.iconst (-1), 1) := by decide +kernel
theorem dX12_lighting_22 : decode cX12_lighting 22 = .ok (.istore_n 3, 1) := by decide +kernel
theorem dX12_lighting_23 : decode cX12_lighting 23 = .ok (.aload_n 0, 1) := by decide +kernel
theorem dX12_lighting_24 : decode cX12_lighting 24 = .ok (.invokevirtual 154, 3) := by decide +kernel
theorem dX12_lighting_27 : decode cX12_lighting 27 = .ok (.iconst 0, 1) := by decide +kernel
theorem dX12_lighting_28 : decode cX12_lighting 28 = .ok (.istore 4, 2) := by decide +kernel
theorem dX12_lighting_30 : decode cX12_lighting 30 = .ok (.iload 4, 2) := by decide +kernel
theorem dX12_lighting_32 : decode cX12_lighting 32 = .ok (.iconst 1, 1) := by decide +kernel
theorem dX12_lighting_33 : decode cX12_lighting 33 = .ok (.aload_n 0, 1) := by decide +kernel
theorem dX12_lighting_34 : decode cX12_lighting 34 = .ok (.invokevirtual 57, 3) := by decide +kernel
theorem dX12_lighting_37 : decode cX12_lighting 37 = .ok (.ishl, 1) := by decide +kernel
theorem dX12_lighting_38 : decode cX12_lighting 38 = .ok (.if_icmp .ge 60, 3) := by decide +kernel
theorem dX12_lighting_41 : decode cX12_lighting 41 = .ok (.iload_n 3, 1) := by decide +kernel
theorem dX12_lighting_42 : decode cX12_lighting 42 = .ok (.iconst (-1), 1) := by decide +kernel
theorem dX12_lighting_43 : decode cX12_lighting 43 = .ok (.if_icmp .eq 15, 3) := by decide +kernel
theorem dX12_lighting_46 : decode cX12_lighting 46 = .ok (.iload 4, 2) := by decide +kernel
theorem dX12_lighting_48 : decode cX12_lighting 48 = .ok (.invokestatic 162, 3) := by decide +kernel
theorem dX12_lighting_51 : decode cX12_lighting 51 = .ok (.iload_n 3, 1) := by decide +kernel
theorem dX12_lighting_52 : decode cX12_lighting 52 = .ok (.invokestatic 162, 3) := by decide +kernel
theorem dX12_lighting_55 : decode cX12_lighting 55 = .ok (.if_icmp .ge 7, 3) := by decide +kernel
theorem dX12_lighting_58 : decode cX12_lighting 58 = .ok (.iconst 1, 1) := by decide +kernel
theorem dX12_lighting_59 : decode cX12_lighting 59 = .ok (.goto 4, 3) := by decide +kernel
theorem dX12_lighting_62 : decode cX12_lighting 62 = .ok (.iconst 0, 1) := by decide +kernel
theorem dX12_lighting_63 : decode cX12_lighting 63 = .ok (.istore 5, 2) := by decide +kernel
theorem dX12_lighting_65 : decode cX12_lighting 65 = .ok (.aload_n 0, 1) := by decide +kernel
theorem dX12_lighting_66 : decode cX12_lighting 66 = .ok (.iload 4, 2) := by decide +kernel
theorem dX12_lighting_68 : decode cX12_lighting 68 = .ok (.putfield 126, 3) := by decide +kernel
theorem dX12_lighting_71 : decode cX12_lighting 71 = .ok (.iload 5, 2) := by decide +kernel
theorem dX12_lighting_73 : decode cX12_lighting 73 = .ok (.ifCond .eq 17, 3) := by decide +kernel
theorem dX12_lighting_76 : decode cX12_lighting 76 = .ok (.aload_n 0, 1) := by decide +kernel
theorem dX12_lighting_77 : decode cX12_lighting 77 = .ok (.iload_n 1, 1) := by decide +kernel
theorem dX12_lighting_78 : decode cX12_lighting 78 = .ok (.iload_n 2, 1) := by decide +kernel
theorem dX12_lighting_79 : decode cX12_lighting 79 = .ok (.invokevirtual 165, 3) := by decide +kernel
theorem dX12_lighting_82 : decode cX12_lighting 82 = .ok (.ifCond .eq 8, 3) := by decide +kernel
theorem dX12_lighting_85 : decode cX12_lighting 85 = .ok (.iload 4, 2) := by decide +kernel
theorem dX12_lighting_87 : decode cX12_lighting 87 = .ok (.goto 4, 3) := by decide +kernel
theorem dX12_lighting_90 : decode cX12_lighting 90 = .ok (.iload_n 3, 1) := by decide +kernel
theorem dX12_lighting_91 : decode cX12_lighting 91 = .ok (.istore_n 3, 1) := by decide +kernel
theorem dX12_lighting_92 : decode cX12_lighting 92 = .ok (.iinc 4 1, 3) := by decide +kernel
theorem dX12_lighting_95 : decode cX12_lighting 95 = .ok (.goto (-65), 3) := by decide +kernel
theorem dX12_lighting_98 : decode cX12_lighting 98 = .ok (.iload_n 3, 1) := by decide +kernel
theorem dX12_lighting_99 : decode cX12_lighting 99 = .ok (.ireturn, 1) := by decide +kernel
theorem dX12_tallow_0 : decode cX12_tallow 0 = .ok (.iload_n 1, 1) := by decide +kernel
theorem dX12_tallow_1 : decode cX12_tallow 1 = .ok (.invokestatic 151, 3) := by decide +kernel
theorem dX12_tallow_4 : decode cX12_tallow 4 = .ok (.ifCond .eq 10, 3) := by decide +kernel
theorem dX12_tallow_7 : decode cX12_tallow 7 = .ok (.iload_n 2, 1) := by decide +kernel
theorem dX12_tallow_8 : decode cX12_tallow 8 = .ok (.invokestatic 89, 3) := by decide +kernel
theorem dX12_tallow_11 : decode cX12_tallow 11 = .ok (.ifCond .ne 10, 3) := by decide +kernel
theorem dX12_tallow_14 : decode cX12_tallow 14 = .ok (.aload_n 0, 1) := by decide +kernel
theorem dX12_tallow_15 : decode cX12_tallow 15 = .ok (.bipush (-2), 2) := by decide +kernel
theorem dX12_tallow_17 : decode cX12_tallow 17 = .ok (.invokevirtual 75, 3) := by decide +kernel
theorem dX12_tallow_20 : decode cX12_tallow 20 = .ok (.ireturn, 1) := by decide +kernel
theorem dX12_tallow_21 : decode cX12_tallow 21 = .ok (.iconst (-1), 1) := by decide +kernel
theorem dX12_tallow_22 : decode cX12_tallow 22 = .ok (.istore_n 3, 1) := by decide +kernel
theorem dX12_tallow_23 : decode cX12_tallow 23 = .ok (.aload_n 0, 1) := by decide +kernel
theorem dX12_tallow_24 : decode cX12_tallow 24 = .ok (.invokevirtual 154, 3) := by decide +kernel
theorem dX12_tallow_27 : decode cX12_tallow 27 = .ok (.iconst 0, 1) := by decide +kernel
theorem dX12_tallow_28 : decode cX12_tallow 28 = .ok (.istore 4, 2) := by decide +kernel
theorem dX12_tallow_30 : decode cX12_tallow 30 = .ok (.iload 4, 2) := by decide +kernel
theorem dX12_tallow_32 : decode cX12_tallow 32 = .ok (.iconst 1, 1) := by decide +kernel
theorem dX12_tallow_33 : decode cX12_tallow 33 = .ok (.aload_n 0, 1) := by decide +kernel
theorem dX12_tallow_34 : decode cX12_tallow 34 = .ok (.invokevirtual 57, 3) := by decide +kernel
theorem dX12_tallow_37 : decode cX12_tallow 37 = .ok (.ishl, 1) := by decide +kernel
theorem dX12_tallow_38 : decode cX12_tallow 38 = .ok (.if_icmp .ge 62, 3) := by decide +kernel
theorem dX12_tallow_41 : decode cX12_tallow 41 = .ok (.iload_n 3, 1) := by decide +kernel
theorem dX12_tallow_42 : decode cX12_tallow 42 = .ok (.iconst (-1), 1) := by decide +kernel
theorem dX12_tallow_43 : decode cX12_tallow 43 = .ok (.if_icmp .eq 13, 3) := by decide +kernel
theorem dX12_tallow_46 : decode cX12_tallow 46 = .ok (.aload_n 0, 1) := by decide +kernel
theorem dX12_tallow_47 : decode cX12_tallow 47 = .ok (.iload 4, 2) := by decide +kernel
theorem dX12_tallow_49 : decode cX12_tallow 49 = .ok (.invokevirtual 169, 3) := by decide +kernel
theorem dX12_tallow_52 : decode cX12_tallow 52 = .ok (.iload_n 3, 1) := by decide +kernel
theorem dX12_tallow_53 : decode cX12_tallow 53 = .ok (.if_icmp .ge 7, 3) := by decide +kernel
theorem dX12_tallow_56 : decode cX12_tallow 56 = .ok (.iconst 1, 1) := by decide +kernel
theorem dX12_tallow_57 : decode cX12_tallow 57 = .ok (.goto 4, 3) := by decide +kernel
theorem dX12_tallow_60 : decode cX12_tallow 60 = .ok (.iconst 0, 1) := by decide +kernel
theorem dX12_tallow_61 : decode cX12_tallow 61 = .ok (.istore 5, 2) := by decide +kernel
theorem dX12_tallow_63 : decode cX12_tallow 63 = .ok (.aload_n 0, 1) := by decide +kernel
theorem dX12_tallow_64 : decode cX12_tallow 64 = .ok (.iload 4, 2) := by decide +kernel
theorem dX12_tallow_66 : decode cX12_tallow 66 = .ok (.putfield 126, 3) := by decide +kernel
theorem dX12_tallow_69 : decode cX12_tallow 69 = .ok (.iload 5, 2) := by decide +kernel
theorem dX12_tallow_71 : decode cX12_tallow 71 = .ok (.ifCond .eq 21, 3) := by decide +kernel
theorem dX12_tallow_74 : decode cX12_tallow 74 = .ok (.aload_n 0, 1) := by decide +kernel
theorem dX12_tallow_75 : decode cX12_tallow 75 = .ok (.iload_n 1, 1) := by decide +kernel
theorem dX12_tallow_76 : decode cX12_tallow 76 = .ok (.iload_n 2, 1) := by decide +kernel
theorem dX12_tallow_77 : decode cX12_tallow 77 = .ok (.invokevirtual 165, 3) := by decide +kernel
theorem dX12_tallow_80 : decode cX12_tallow 80 = .ok (.ifCond .eq 12, 3) := by decide +kernel
theorem dX12_tallow_83 : decode cX12_tallow 83 = .ok (.aload_n 0, 1) := by decide +kernel
theorem dX12_tallow_84 : decode cX12_tallow 84 = .ok (.iload 4, 2) := by decide +kernel
theorem dX12_tallow_86 : decode cX12_tallow 86 = .ok (.invokevirtual 169, 3) := by decide +kernel
theorem dX12_tallow_89 : decode cX12_tallow 89 = .ok (.goto 4, 3) := by decide +kernel
theorem dX12_tallow_92 : decode cX12_tallow 92 = .ok (.iload_n 3, 1) := by decide +kernel
theorem dX12_tallow_93 : decode cX12_tallow 93 = .ok (.istore_n 3, 1) := by decide +kernel
theorem dX12_tallow_94 : decode cX12_tallow 94 = .ok (.iinc 4 1, 3) := by decide +kernel
theorem dX12_tallow_97 : decode cX12_tallow 97 = .ok (.goto (-67), 3) := by decide +kernel
theorem dX12_tallow_100 : decode cX12_tallow 100 = .ok (.iload_n 3, 1) := by decide +kernel
theorem dX12_tallow_101 : decode cX12_tallow 101 = .ok (.ireturn, 1) := by decide +kernel
theorem dX12_put_0 : decode cX12_put 0 = .ok (.aload_n 0, 1) := by decide +kernel
theorem dX12_put_1 : decode cX12_put 1 = .ok (.iload_n 1, 1) := by decide +kernel
theorem dX12_put_2 : decode cX12_put 2 = .ok (.invokevirtual 108, 3) := by decide +kernel
theorem dX12_put_5 : decode cX12_put 5 = .ok (.ifCond .eq 10, 3) := by decide +kernel
theorem dX12_put_8 : decode cX12_put 8 = .ok (.iload_n 2, 1) := by decide +kernel
theorem dX12_put_9 : decode cX12_put 9 = .ok (.invokestatic 151, 3) := by decide +kernel
theorem dX12_put_12 : decode cX12_put 12 = .ok (.ifCond .ne 10, 3) := by decide +kernel
theorem dX12_put_15 : decode cX12_put 15 = .ok (.aload_n 0, 1) := by decide +kernel
theorem dX12_put_16 : decode cX12_put 16 = .ok (.bipush (-2), 2) := by decide +kernel
theorem dX12_put_18 : decode cX12_put 18 = .ok (.invokevirtual 75, 3) := by decide +kernel
theorem dX12_put_21 : decode cX12_put 21 = .ok (.ireturn, 1) := by decide +kernel
theorem dX12_put_22 : decode cX12_put 22 = .ok (.iconst 0, 1) := by decide +kernel
theorem dX12_put_23 : decode cX12_put 23 = .ok (.istore_n 3, 1) := by decide +kernel
theorem dX12_put_24 : decode cX12_put 24 = .ok (.iconst (-1), 1) := by decide +kernel
theorem dX12_put_25 : decode cX12_put 25 = .ok (.istore 4, 2) := by decide +kernel
theorem dX12_put_27 : decode cX12_put 27 = .ok (.aload_n 0, 1) := by decide +kernel
theorem dX12_put_28 : decode cX12_put 28 = .ok (.invokevirtual 154, 3) := by decide +kernel
theorem dX12_put_31 : decode cX12_put 31 = .ok (.iconst 0, 1) := by decide +kernel
theorem dX12_put_32 : decode cX12_put 32 = .ok (.istore 5, 2) := by decide +kernel
theorem dX12_put_34 : decode cX12_put 34 = .ok (.iload 5, 2) := by decide +kernel
theorem dX12_put_36 : decode cX12_put 36 = .ok (.bipush 64, 2) := by decide +kernel
theorem dX12_put_38 : decode cX12_put 38 = .ok (.if_icmp .ge 60, 3) := by decide +kernel
theorem dX12_put_41 : decode cX12_put 41 = .ok (.aload_n 0, 1) := by decide +kernel
theorem dX12_put_42 : decode cX12_put 42 = .ok (.getfield 27, 3) := by decide +kernel
theorem dX12_put_45 : decode cX12_put 45 = .ok (.iload_n 1, 1) := by decide +kernel
theorem dX12_put_46 : decode cX12_put 46 = .ok (.iload 5, 2) := by decide +kernel
theorem dX12_put_48 : decode cX12_put 48 = .ok (.iastore, 1) := by decide +kernel
theorem dX12_put_49 : decode cX12_put 49 = .ok (.aload_n 0, 1) := by decide +kernel
theorem dX12_put_50 : decode cX12_put 50 = .ok (.aload_n 0, 1) := by decide +kernel
theorem dX12_put_51 : decode cX12_put 51 = .ok (.getfield 30, 3) := by decide +kernel
theorem dX12_put_54 : decode cX12_put 54 = .ok (.iload_n 1, 1) := by decide +kernel
theorem dX12_put_55 : decode cX12_put 55 = .ok (.iaload, 1) := by decide +kernel
theorem dX12_put_56 : decode cX12_put 56 = .ok (.iload_n 2, 1) := by decide +kernel
theorem dX12_put_57 : decode cX12_put 57 = .ok (.invokevirtual 172, 3) := by decide +kernel
theorem dX12_put_60 : decode cX12_put 60 = .ok (.istore 6, 2) := by decide +kernel
theorem dX12_put_62 : decode cX12_put 62 = .ok (.iload 6, 2) := by decide +kernel
theorem dX12_put_64 : decode cX12_put 64 = .ok (.iload 4, 2) := by decide +kernel
theorem dX12_put_66 : decode cX12_put 66 = .ok (.if_icmp .le 8, 3) := by decide +kernel
theorem dX12_put_69 : decode cX12_put 69 = .ok (.iload 5, 2) := by decide +kernel
theorem dX12_put_71 : decode cX12_put 71 = .ok (.goto 4, 3) := by decide +kernel
theorem dX12_put_74 : decode cX12_put 74 = .ok (.iload_n 3, 1) := by decide +kernel
theorem dX12_put_75 : decode cX12_put 75 = .ok (.istore_n 3, 1) := by decide +kernel
theorem dX12_put_76 : decode cX12_put 76 = .ok (.iload 6, 2) := by decide +kernel
theorem dX12_put_78 : decode cX12_put 78 = .ok (.iload 4, 2) := by decide +kernel
theorem dX12_put_80 : decode cX12_put 80 = .ok (.if_icmp .le 8, 3) := by decide +kernel
theorem dX12_put_83 : decode cX12_put 83 = .ok (.iload 6, 2) := by decide +kernel
theorem dX12_put_85 : decode cX12_put 85 = .ok (.goto 5, 3) := by decide +kernel
theorem dX12_put_88 : decode cX12_put 88 = .ok (.iload 4, 2) := by decide +kernel
theorem dX12_put_90 : decode cX12_put 90 = .ok (.istore 4, 2) := by decide +kernel
theorem dX12_put_92 : decode cX12_put 92 = .ok (.iinc 5 1, 3) := by decide +kernel
theorem dX12_put_95 : decode cX12_put 95 = .ok (.goto (-61), 3) := by decide +kernel
theorem dX12_put_98 : decode cX12_put 98 = .ok (.iload_n 3, 1) := by decide +kernel
theorem dX12_put_99 : decode cX12_put 99 = .ok (.ireturn, 1) := by decide +kernel
theorem dX12_isBeside_0 : decode cX12_isBeside 0 = .ok (.iload_n 1, 1) := by decide +kernel
theorem dX12_isBeside_1 : decode cX12_isBeside 1 = .ok (.iload_n 2, 1) := by decide +kernel
theorem dX12_isBeside_2 : decode cX12_isBeside 2 = .ok (.invokestatic 133, 3) := by decide +kernel
theorem dX12_isBeside_5 : decode cX12_isBeside 5 = .ok (.iconst 1, 1) := by decide +kernel
theorem dX12_isBeside_6 : decode cX12_isBeside 6 = .ok (.if_icmp .ne 7, 3) := by decide +kernel
theorem dX12_isBeside_9 : decode cX12_isBeside 9 = .ok (.iconst 1, 1) := by decide +kernel
theorem dX12_isBeside_10 : decode cX12_isBeside 10 = .ok (.goto 4, 3) := by decide +kernel
theorem dX12_isBeside_13 : decode cX12_isBeside 13 = .ok (.iconst 0, 1) := by decide +kernel
theorem dX12_isBeside_14 : decode cX12_isBeside 14 = .ok (.ireturn, 1) := by decide +kernel
theorem dX12_laySteps_0 : decode cX12_laySteps 0 = .ok (.iconst 0, 1) := by decide +kernel
theorem dX12_laySteps_1 : decode cX12_laySteps 1 = .ok (.istore 4, 2) := by decide +kernel
theorem dX12_laySteps_3 : decode cX12_laySteps 3 = .ok (.iload 4, 2) := by decide +kernel
theorem dX12_laySteps_5 : decode cX12_laySteps 5 = .ok (.bipush 64, 2) := by decide +kernel
theorem dX12_laySteps_7 : decode cX12_laySteps 7 = .ok (.if_icmp .ge 39, 3) := by decide +kernel
theorem dX12_laySteps_10 : decode cX12_laySteps 10 = .ok (.aload_n 0, 1) := by decide +kernel
theorem dX12_laySteps_11 : decode cX12_laySteps 11 = .ok (.getfield 33, 3) := by decide +kernel
theorem dX12_laySteps_14 : decode cX12_laySteps 14 = .ok (.iload 4, 2) := by decide +kernel
theorem dX12_laySteps_16 : decode cX12_laySteps 16 = .ok (.iload 4, 2) := by decide +kernel
theorem dX12_laySteps_18 : decode cX12_laySteps 18 = .ok (.iload_n 1, 1) := by decide +kernel
theorem dX12_laySteps_19 : decode cX12_laySteps 19 = .ok (.if_icmp .ne 18, 3) := by decide +kernel
theorem dX12_laySteps_22 : decode cX12_laySteps 22 = .ok (.aload_n 0, 1) := by decide +kernel
theorem dX12_laySteps_23 : decode cX12_laySteps 23 = .ok (.iload 4, 2) := by decide +kernel
theorem dX12_laySteps_25 : decode cX12_laySteps 25 = .ok (.iload_n 2, 1) := by decide +kernel
theorem dX12_laySteps_26 : decode cX12_laySteps 26 = .ok (.invokevirtual 143, 3) := by decide +kernel
theorem dX12_laySteps_29 : decode cX12_laySteps 29 = .ok (.iload_n 3, 1) := by decide +kernel
theorem dX12_laySteps_30 : decode cX12_laySteps 30 = .ok (.if_icmp .ge 7, 3) := by decide +kernel
theorem dX12_laySteps_33 : decode cX12_laySteps 33 = .ok (.iconst 0, 1) := by decide +kernel
theorem dX12_laySteps_34 : decode cX12_laySteps 34 = .ok (.goto 5, 3) := by decide +kernel
theorem dX12_laySteps_37 : decode cX12_laySteps 37 = .ok (.ldc 175, 2) := by decide +kernel
theorem dX12_laySteps_39 : decode cX12_laySteps 39 = .ok (.iastore, 1) := by decide +kernel
theorem dX12_laySteps_40 : decode cX12_laySteps 40 = .ok (.iinc 4 1, 3) := by decide +kernel
theorem dX12_laySteps_43 : decode cX12_laySteps 43 = .ok (.goto (-40), 3) := by decide +kernel
theorem dX12_laySteps_46 : decode cX12_laySteps 46 = .ok (.iconst 1, 1) := by decide +kernel
theorem dX12_laySteps_47 : decode cX12_laySteps 47 = .ok (.istore 4, 2) := by decide +kernel
theorem dX12_laySteps_49 : decode cX12_laySteps 49 = .ok (.iload 4, 2) := by decide +kernel
theorem dX12_laySteps_51 : decode cX12_laySteps 51 = .ok (.ifCond .eq 149, 3) := by decide +kernel
theorem dX12_laySteps_54 : decode cX12_laySteps 54 = .ok (.iconst 0, 1) := by decide +kernel
theorem dX12_laySteps_55 : decode cX12_laySteps 55 = .ok (.istore 4, 2) := by decide +kernel
theorem dX12_laySteps_57 : decode cX12_laySteps 57 = .ok (.iconst 0, 1) := by decide +kernel
theorem dX12_laySteps_58 : decode cX12_laySteps 58 = .ok (.istore 5, 2) := by decide +kernel
theorem dX12_laySteps_60 : decode cX12_laySteps 60 = .ok (.iload 5, 2) := by decide +kernel
theorem dX12_laySteps_62 : decode cX12_laySteps 62 = .ok (.bipush 64, 2) := by decide +kernel
theorem dX12_laySteps_64 : decode cX12_laySteps 64 = .ok (.if_icmp .ge 133, 3) := by decide +kernel
theorem dX12_laySteps_67 : decode cX12_laySteps 67 = .ok (.aload_n 0, 1) := by decide +kernel
theorem dX12_laySteps_68 : decode cX12_laySteps 68 = .ok (.iload 5, 2) := by decide +kernel
theorem dX12_laySteps_70 : decode cX12_laySteps 70 = .ok (.iload_n 2, 1) := by decide +kernel
theorem dX12_laySteps_71 : decode cX12_laySteps 71 = .ok (.invokevirtual 143, 3) := by decide +kernel
theorem dX12_laySteps_74 : decode cX12_laySteps 74 = .ok (.iload_n 3, 1) := by decide +kernel
theorem dX12_laySteps_75 : decode cX12_laySteps 75 = .ok (.if_icmp .ge 7, 3) := by decide +kernel
theorem dX12_laySteps_78 : decode cX12_laySteps 78 = .ok (.iconst 1, 1) := by decide +kernel
theorem dX12_laySteps_79 : decode cX12_laySteps 79 = .ok (.goto 4, 3) := by decide +kernel
theorem dX12_laySteps_82 : decode cX12_laySteps 82 = .ok (.iconst 0, 1) := by decide +kernel
theorem dX12_laySteps_83 : decode cX12_laySteps 83 = .ok (.istore 6, 2) := by decide +kernel
theorem dX12_laySteps_85 : decode cX12_laySteps 85 = .ok (.iconst 0, 1) := by decide +kernel
theorem dX12_laySteps_86 : decode cX12_laySteps 86 = .ok (.istore 7, 2) := by decide +kernel
theorem dX12_laySteps_88 : decode cX12_laySteps 88 = .ok (.iload 7, 2) := by decide +kernel
theorem dX12_laySteps_90 : decode cX12_laySteps 90 = .ok (.bipush 64, 2) := by decide +kernel
theorem dX12_laySteps_92 : decode cX12_laySteps 92 = .ok (.if_icmp .ge 99, 3) := by decide +kernel
theorem dX12_laySteps_95 : decode cX12_laySteps 95 = .ok (.iload 6, 2) := by decide +kernel
theorem dX12_laySteps_97 : decode cX12_laySteps 97 = .ok (.ifCond .eq 94, 3) := by decide +kernel
theorem dX12_laySteps_100 : decode cX12_laySteps 100 = .ok (.aload_n 0, 1) := by decide +kernel
theorem dX12_laySteps_101 : decode cX12_laySteps 101 = .ok (.iload 5, 2) := by decide +kernel
theorem dX12_laySteps_103 : decode cX12_laySteps 103 = .ok (.iload 7, 2) := by decide +kernel
theorem dX12_laySteps_105 : decode cX12_laySteps 105 = .ok (.invokevirtual 176, 3) := by decide +kernel
theorem dX12_laySteps_108 : decode cX12_laySteps 108 = .ok (.ifCond .eq 26, 3) := by decide +kernel
theorem dX12_laySteps_111 : decode cX12_laySteps 111 = .ok (.aload_n 0, 1) := by decide +kernel
theorem dX12_laySteps_112 : decode cX12_laySteps 112 = .ok (.getfield 33, 3) := by decide +kernel
theorem dX12_laySteps_115 : decode cX12_laySteps 115 = .ok (.iload 7, 2) := by decide +kernel
theorem dX12_laySteps_117 : decode cX12_laySteps 117 = .ok (.iaload, 1) := by decide +kernel
theorem dX12_laySteps_118 : decode cX12_laySteps 118 = .ok (.iconst 1, 1) := by decide +kernel
theorem dX12_laySteps_119 : decode cX12_laySteps 119 = .ok (.iadd, 1) := by decide +kernel
theorem dX12_laySteps_120 : decode cX12_laySteps 120 = .ok (.aload_n 0, 1) := by decide +kernel
theorem dX12_laySteps_121 : decode cX12_laySteps 121 = .ok (.getfield 33, 3) := by decide +kernel
theorem dX12_laySteps_124 : decode cX12_laySteps 124 = .ok (.iload 5, 2) := by decide +kernel
theorem dX12_laySteps_126 : decode cX12_laySteps 126 = .ok (.iaload, 1) := by decide +kernel
theorem dX12_laySteps_127 : decode cX12_laySteps 127 = .ok (.if_icmp .ge 7, 3) := by decide +kernel
theorem dX12_laySteps_130 : decode cX12_laySteps 130 = .ok (.iconst 1, 1) := by decide +kernel
theorem dX12_laySteps_131 : decode cX12_laySteps 131 = .ok (.goto 4, 3) := by decide +kernel
theorem dX12_laySteps_134 : decode cX12_laySteps 134 = .ok (.iconst 0, 1) := by decide +kernel
theorem dX12_laySteps_135 : decode cX12_laySteps 135 = .ok (.istore 8, 2) := by decide +kernel
theorem dX12_laySteps_137 : decode cX12_laySteps 137 = .ok (.aload_n 0, 1) := by decide +kernel
theorem dX12_laySteps_138 : decode cX12_laySteps 138 = .ok (.getfield 33, 3) := by decide +kernel
theorem dX12_laySteps_141 : decode cX12_laySteps 141 = .ok (.iload 5, 2) := by decide +kernel
theorem dX12_laySteps_143 : decode cX12_laySteps 143 = .ok (.iload 8, 2) := by decide +kernel
theorem dX12_laySteps_145 : decode cX12_laySteps 145 = .ok (.ifCond .eq 15, 3) := by decide +kernel
theorem dX12_laySteps_148 : decode cX12_laySteps 148 = .ok (.aload_n 0, 1) := by decide +kernel
theorem dX12_laySteps_149 : decode cX12_laySteps 149 = .ok (.getfield 33, 3) := by decide +kernel
theorem dX12_laySteps_152 : decode cX12_laySteps 152 = .ok (.iload 7, 2) := by decide +kernel
theorem dX12_laySteps_154 : decode cX12_laySteps 154 = .ok (.iaload, 1) := by decide +kernel
theorem dX12_laySteps_155 : decode cX12_laySteps 155 = .ok (.iconst 1, 1) := by decide +kernel
theorem dX12_laySteps_156 : decode cX12_laySteps 156 = .ok (.iadd, 1) := by decide +kernel
theorem dX12_laySteps_157 : decode cX12_laySteps 157 = .ok (.goto 10, 3) := by decide +kernel
theorem dX12_laySteps_160 : decode cX12_laySteps 160 = .ok (.aload_n 0, 1) := by decide +kernel
theorem dX12_laySteps_161 : decode cX12_laySteps 161 = .ok (.getfield 33, 3) := by decide +kernel
theorem dX12_laySteps_164 : decode cX12_laySteps 164 = .ok (.iload 5, 2) := by decide +kernel
theorem dX12_laySteps_166 : decode cX12_laySteps 166 = .ok (.iaload, 1) := by decide +kernel
theorem dX12_laySteps_167 : decode cX12_laySteps 167 = .ok (.iastore, 1) := by decide +kernel
theorem dX12_laySteps_168 : decode cX12_laySteps 168 = .ok (.iload 4, 2) := by decide +kernel
theorem dX12_laySteps_170 : decode cX12_laySteps 170 = .ok (.ifCond .ne 8, 3) := by decide +kernel
theorem dX12_laySteps_173 : decode cX12_laySteps 173 = .ok (.iload 8, 2) := by decide +kernel
theorem dX12_laySteps_175 : decode cX12_laySteps 175 = .ok (.ifCond .eq 7, 3) := by decide +kernel
theorem dX12_laySteps_178 : decode cX12_laySteps 178 = .ok (.iconst 1, 1) := by decide +kernel
theorem dX12_laySteps_179 : decode cX12_laySteps 179 = .ok (.goto 4, 3) := by decide +kernel
theorem dX12_laySteps_182 : decode cX12_laySteps 182 = .ok (.iconst 0, 1) := by decide +kernel
theorem dX12_laySteps_183 : decode cX12_laySteps 183 = .ok (.istore 4, 2) := by decide +kernel
theorem dX12_laySteps_185 : decode cX12_laySteps 185 = .ok (.iinc 7 1, 3) := by decide +kernel
theorem dX12_laySteps_188 : decode cX12_laySteps 188 = .ok (.goto (-100), 3) := by decide +kernel
theorem dX12_laySteps_191 : decode cX12_laySteps 191 = .ok (.iinc 5 1, 3) := by decide +kernel
theorem dX12_laySteps_194 : decode cX12_laySteps 194 = .ok (.goto (-134), 3) := by decide +kernel
theorem dX12_laySteps_197 : decode cX12_laySteps 197 = .ok (.goto (-148), 3) := by decide +kernel
theorem dX12_laySteps_200 : decode cX12_laySteps 200 = .ok (.return_, 1) := by decide +kernel
theorem dX12_thief_0 : decode cX12_thief 0 = .ok (.iload_n 1, 1) := by decide +kernel
theorem dX12_thief_1 : decode cX12_thief 1 = .ok (.invokestatic 85, 3) := by decide +kernel
theorem dX12_thief_4 : decode cX12_thief 4 = .ok (.ifCond .eq 36, 3) := by decide +kernel
theorem dX12_thief_7 : decode cX12_thief 7 = .ok (.iload_n 2, 1) := by decide +kernel
theorem dX12_thief_8 : decode cX12_thief 8 = .ok (.invokestatic 85, 3) := by decide +kernel
theorem dX12_thief_11 : decode cX12_thief 11 = .ok (.ifCond .eq 29, 3) := by decide +kernel
theorem dX12_thief_14 : decode cX12_thief 14 = .ok (.iload_n 3, 1) := by decide +kernel
theorem dX12_thief_15 : decode cX12_thief 15 = .ok (.invokestatic 151, 3) := by decide +kernel
theorem dX12_thief_18 : decode cX12_thief 18 = .ok (.ifCond .eq 22, 3) := by decide +kernel
theorem dX12_thief_21 : decode cX12_thief 21 = .ok (.iload 4, 2) := by decide +kernel
theorem dX12_thief_23 : decode cX12_thief 23 = .ok (.invokestatic 89, 3) := by decide +kernel
theorem dX12_thief_26 : decode cX12_thief 26 = .ok (.ifCond .eq 14, 3) := by decide +kernel
theorem dX12_thief_29 : decode cX12_thief 29 = .ok (.iload 5, 2) := by decide +kernel
theorem dX12_thief_31 : decode cX12_thief 31 = .ok (.i2l, 1) := by decide +kernel
theorem dX12_thief_32 : decode cX12_thief 32 = .ok (.lconst 0, 1) := by decide +kernel
theorem dX12_thief_33 : decode cX12_thief 33 = .ok (.lconst 1, 1) := by decide +kernel
theorem dX12_thief_34 : decode cX12_thief 34 = .ok (.invokestatic 61, 3) := by decide +kernel
theorem dX12_thief_37 : decode cX12_thief 37 = .ok (.ifCond .ne 10, 3) := by decide +kernel
theorem dX12_thief_40 : decode cX12_thief 40 = .ok (.aload_n 0, 1) := by decide +kernel
theorem dX12_thief_41 : decode cX12_thief 41 = .ok (.bipush (-2), 2) := by decide +kernel
theorem dX12_thief_43 : decode cX12_thief 43 = .ok (.invokevirtual 75, 3) := by decide +kernel
theorem dX12_thief_46 : decode cX12_thief 46 = .ok (.ireturn, 1) := by decide +kernel
theorem dX12_thief_47 : decode cX12_thief 47 = .ok (.aload_n 0, 1) := by decide +kernel
theorem dX12_thief_48 : decode cX12_thief 48 = .ok (.invokevirtual 154, 3) := by decide +kernel
theorem dX12_thief_51 : decode cX12_thief 51 = .ok (.aload_n 0, 1) := by decide +kernel
theorem dX12_thief_52 : decode cX12_thief 52 = .ok (.iload_n 2, 1) := by decide +kernel
theorem dX12_thief_53 : decode cX12_thief 53 = .ok (.iload_n 3, 1) := by decide +kernel
theorem dX12_thief_54 : decode cX12_thief 54 = .ok (.iload 4, 2) := by decide +kernel
theorem dX12_thief_56 : decode cX12_thief 56 = .ok (.invokevirtual 179, 3) := by decide +kernel
theorem dX12_thief_59 : decode cX12_thief 59 = .ok (.aload_n 0, 1) := by decide +kernel
theorem dX12_thief_60 : decode cX12_thief 60 = .ok (.getfield 33, 3) := by decide +kernel
theorem dX12_thief_63 : decode cX12_thief 63 = .ok (.iload_n 1, 1) := by decide +kernel
theorem dX12_thief_64 : decode cX12_thief 64 = .ok (.iaload, 1) := by decide +kernel
theorem dX12_thief_65 : decode cX12_thief 65 = .ok (.ldc 175, 2) := by decide +kernel
theorem dX12_thief_67 : decode cX12_thief 67 = .ok (.if_icmp .lt 5, 3) := by decide +kernel
theorem dX12_thief_70 : decode cX12_thief 70 = .ok (.iconst (-1), 1) := by decide +kernel
theorem dX12_thief_71 : decode cX12_thief 71 = .ok (.ireturn, 1) := by decide +kernel
theorem dX12_thief_72 : decode cX12_thief 72 = .ok (.iload_n 1, 1) := by decide +kernel
theorem dX12_thief_73 : decode cX12_thief 73 = .ok (.istore 6, 2) := by decide +kernel
theorem dX12_thief_75 : decode cX12_thief 75 = .ok (.bipush 63, 2) := by decide +kernel
theorem dX12_thief_77 : decode cX12_thief 77 = .ok (.istore 7, 2) := by decide +kernel
theorem dX12_thief_79 : decode cX12_thief 79 = .ok (.iload 7, 2) := by decide +kernel
theorem dX12_thief_81 : decode cX12_thief 81 = .ok (.ifCond .lt 51, 3) := by decide +kernel
theorem dX12_thief_84 : decode cX12_thief 84 = .ok (.iload_n 1, 1) := by decide +kernel
theorem dX12_thief_85 : decode cX12_thief 85 = .ok (.iload_n 2, 1) := by decide +kernel
theorem dX12_thief_86 : decode cX12_thief 86 = .ok (.if_icmp .eq 46, 3) := by decide +kernel
theorem dX12_thief_89 : decode cX12_thief 89 = .ok (.aload_n 0, 1) := by decide +kernel
theorem dX12_thief_90 : decode cX12_thief 90 = .ok (.iload_n 1, 1) := by decide +kernel
theorem dX12_thief_91 : decode cX12_thief 91 = .ok (.iload 7, 2) := by decide +kernel
theorem dX12_thief_93 : decode cX12_thief 93 = .ok (.invokevirtual 176, 3) := by decide +kernel
theorem dX12_thief_96 : decode cX12_thief 96 = .ok (.ifCond .eq 26, 3) := by decide +kernel
theorem dX12_thief_99 : decode cX12_thief 99 = .ok (.aload_n 0, 1) := by decide +kernel
theorem dX12_thief_100 : decode cX12_thief 100 = .ok (.getfield 33, 3) := by decide +kernel
theorem dX12_thief_103 : decode cX12_thief 103 = .ok (.iload 7, 2) := by decide +kernel
theorem dX12_thief_105 : decode cX12_thief 105 = .ok (.iaload, 1) := by decide +kernel
theorem dX12_thief_106 : decode cX12_thief 106 = .ok (.aload_n 0, 1) := by decide +kernel
theorem dX12_thief_107 : decode cX12_thief 107 = .ok (.getfield 33, 3) := by decide +kernel
theorem dX12_thief_110 : decode cX12_thief 110 = .ok (.iload_n 1, 1) := by decide +kernel
theorem dX12_thief_111 : decode cX12_thief 111 = .ok (.iaload, 1) := by decide +kernel
theorem dX12_thief_112 : decode cX12_thief 112 = .ok (.iconst 1, 1) := by decide +kernel
theorem dX12_thief_113 : decode cX12_thief 113 = .ok (.isub, 1) := by decide +kernel
theorem dX12_thief_114 : decode cX12_thief 114 = .ok (.if_icmp .ne 8, 3) := by decide +kernel
theorem dX12_thief_117 : decode cX12_thief 117 = .ok (.iload 7, 2) := by decide +kernel
theorem dX12_thief_119 : decode cX12_thief 119 = .ok (.goto 5, 3) := by decide +kernel
theorem dX12_thief_122 : decode cX12_thief 122 = .ok (.iload 6, 2) := by decide +kernel
theorem dX12_thief_124 : decode cX12_thief 124 = .ok (.istore 6, 2) := by decide +kernel
theorem dX12_thief_126 : decode cX12_thief 126 = .ok (.iinc 7 (-1), 3) := by decide +kernel
theorem dX12_thief_129 : decode cX12_thief 129 = .ok (.goto (-50), 3) := by decide +kernel
theorem dX12_thief_132 : decode cX12_thief 132 = .ok (.iload 5, 2) := by decide +kernel
theorem dX12_thief_134 : decode cX12_thief 134 = .ok (.ifCond .ne 12, 3) := by decide +kernel
theorem dX12_thief_137 : decode cX12_thief 137 = .ok (.aload_n 0, 1) := by decide +kernel
theorem dX12_thief_138 : decode cX12_thief 138 = .ok (.getfield 33, 3) := by decide +kernel
theorem dX12_thief_141 : decode cX12_thief 141 = .ok (.iload_n 1, 1) := by decide +kernel
theorem dX12_thief_142 : decode cX12_thief 142 = .ok (.iaload, 1) := by decide +kernel
theorem dX12_thief_143 : decode cX12_thief 143 = .ok (.goto 5, 3) := by decide +kernel
theorem dX12_thief_146 : decode cX12_thief 146 = .ok (.iload 6, 2) := by decide +kernel
theorem dX12_thief_148 : decode cX12_thief 148 = .ok (.ireturn, 1) := by decide +kernel
theorem dX12_wedding_0 : decode cX12_wedding 0 = .ok (.iload_n 1, 1) := by decide +kernel
theorem dX12_wedding_1 : decode cX12_wedding 1 = .ok (.invokestatic 92, 3) := by decide +kernel
theorem dX12_wedding_4 : decode cX12_wedding 4 = .ok (.ifCond .eq 22, 3) := by decide +kernel
theorem dX12_wedding_7 : decode cX12_wedding 7 = .ok (.iload_n 2, 1) := by decide +kernel
theorem dX12_wedding_8 : decode cX12_wedding 8 = .ok (.invokestatic 92, 3) := by decide +kernel
theorem dX12_wedding_11 : decode cX12_wedding 11 = .ok (.ifCond .eq 15, 3) := by decide +kernel
theorem dX12_wedding_14 : decode cX12_wedding 14 = .ok (.iload_n 1, 1) := by decide +kernel
theorem dX12_wedding_15 : decode cX12_wedding 15 = .ok (.iload_n 2, 1) := by decide +kernel
theorem dX12_wedding_16 : decode cX12_wedding 16 = .ok (.if_icmp .eq 10, 3) := by decide +kernel
theorem dX12_wedding_19 : decode cX12_wedding 19 = .ok (.iload_n 3, 1) := by decide +kernel
theorem dX12_wedding_20 : decode cX12_wedding 20 = .ok (.invokestatic 151, 3) := by decide +kernel
theorem dX12_wedding_23 : decode cX12_wedding 23 = .ok (.ifCond .ne 10, 3) := by decide +kernel
theorem dX12_wedding_26 : decode cX12_wedding 26 = .ok (.aload_n 0, 1) := by decide +kernel
theorem dX12_wedding_27 : decode cX12_wedding 27 = .ok (.bipush (-100), 2) := by decide +kernel
theorem dX12_wedding_29 : decode cX12_wedding 29 = .ok (.invokevirtual 75, 3) := by decide +kernel
theorem dX12_wedding_32 : decode cX12_wedding 32 = .ok (.ireturn, 1) := by decide +kernel
theorem dX12_wedding_33 : decode cX12_wedding 33 = .ok (.aload_n 0, 1) := by decide +kernel
theorem dX12_wedding_34 : decode cX12_wedding 34 = .ok (.invokevirtual 154, 3) := by decide +kernel
theorem dX12_wedding_37 : decode cX12_wedding 37 = .ok (.aload_n 0, 1) := by decide +kernel
theorem dX12_wedding_38 : decode cX12_wedding 38 = .ok (.iload_n 1, 1) := by decide +kernel
theorem dX12_wedding_39 : decode cX12_wedding 39 = .ok (.iload_n 3, 1) := by decide +kernel
theorem dX12_wedding_40 : decode cX12_wedding 40 = .ok (.invokevirtual 172, 3) := by decide +kernel
theorem dX12_wedding_43 : decode cX12_wedding 43 = .ok (.aload_n 0, 1) := by decide +kernel
theorem dX12_wedding_44 : decode cX12_wedding 44 = .ok (.iload_n 2, 1) := by decide +kernel
theorem dX12_wedding_45 : decode cX12_wedding 45 = .ok (.iload_n 3, 1) := by decide +kernel
theorem dX12_wedding_46 : decode cX12_wedding 46 = .ok (.invokevirtual 172, 3) := by decide +kernel
theorem dX12_wedding_49 : decode cX12_wedding 49 = .ok (.iadd, 1) := by decide +kernel
theorem dX12_wedding_50 : decode cX12_wedding 50 = .ok (.istore 4, 2) := by decide +kernel
theorem dX12_wedding_52 : decode cX12_wedding 52 = .ok (.iconst 0, 1) := by decide +kernel
theorem dX12_wedding_53 : decode cX12_wedding 53 = .ok (.istore 5, 2) := by decide +kernel
theorem dX12_wedding_55 : decode cX12_wedding 55 = .ok (.iload 5, 2) := by decide +kernel
theorem dX12_wedding_57 : decode cX12_wedding 57 = .ok (.aload_n 0, 1) := by decide +kernel
theorem dX12_wedding_58 : decode cX12_wedding 58 = .ok (.invokevirtual 57, 3) := by decide +kernel
theorem dX12_wedding_61 : decode cX12_wedding 61 = .ok (.if_icmp .ge 38, 3) := by decide +kernel
theorem dX12_wedding_64 : decode cX12_wedding 64 = .ok (.aload_n 0, 1) := by decide +kernel
theorem dX12_wedding_65 : decode cX12_wedding 65 = .ok (.getfield 30, 3) := by decide +kernel
theorem dX12_wedding_68 : decode cX12_wedding 68 = .ok (.iload 5, 2) := by decide +kernel
theorem dX12_wedding_70 : decode cX12_wedding 70 = .ok (.aload_n 0, 1) := by decide +kernel
theorem dX12_wedding_71 : decode cX12_wedding 71 = .ok (.getfield 30, 3) := by decide +kernel
theorem dX12_wedding_74 : decode cX12_wedding 74 = .ok (.iload 5, 2) := by decide +kernel
theorem dX12_wedding_76 : decode cX12_wedding 76 = .ok (.iaload, 1) := by decide +kernel
theorem dX12_wedding_77 : decode cX12_wedding 77 = .ok (.iload_n 2, 1) := by decide +kernel
theorem dX12_wedding_78 : decode cX12_wedding 78 = .ok (.if_icmp .ne 7, 3) := by decide +kernel
theorem dX12_wedding_81 : decode cX12_wedding 81 = .ok (.iload_n 1, 1) := by decide +kernel
theorem dX12_wedding_82 : decode cX12_wedding 82 = .ok (.goto 10, 3) := by decide +kernel
theorem dX12_wedding_85 : decode cX12_wedding 85 = .ok (.aload_n 0, 1) := by decide +kernel
theorem dX12_wedding_86 : decode cX12_wedding 86 = .ok (.getfield 30, 3) := by decide +kernel
theorem dX12_wedding_89 : decode cX12_wedding 89 = .ok (.iload 5, 2) := by decide +kernel
theorem dX12_wedding_91 : decode cX12_wedding 91 = .ok (.iaload, 1) := by decide +kernel
theorem dX12_wedding_92 : decode cX12_wedding 92 = .ok (.iastore, 1) := by decide +kernel
theorem dX12_wedding_93 : decode cX12_wedding 93 = .ok (.iinc 5 1, 3) := by decide +kernel
theorem dX12_wedding_96 : decode cX12_wedding 96 = .ok (.goto (-41), 3) := by decide +kernel
theorem dX12_wedding_99 : decode cX12_wedding 99 = .ok (.aload_n 0, 1) := by decide +kernel
theorem dX12_wedding_100 : decode cX12_wedding 100 = .ok (.iload_n 1, 1) := by decide +kernel
theorem dX12_wedding_101 : decode cX12_wedding 101 = .ok (.iload_n 3, 1) := by decide +kernel
theorem dX12_wedding_102 : decode cX12_wedding 102 = .ok (.invokevirtual 172, 3) := by decide +kernel
theorem dX12_wedding_105 : decode cX12_wedding 105 = .ok (.iload 4, 2) := by decide +kernel
theorem dX12_wedding_107 : decode cX12_wedding 107 = .ok (.isub, 1) := by decide +kernel
theorem dX12_wedding_108 : decode cX12_wedding 108 = .ok (.ireturn, 1) := by decide +kernel
theorem dX12_ownOf_0 : decode cX12_ownOf 0 = .ok (.iconst 0, 1) := by decide +kernel
theorem dX12_ownOf_1 : decode cX12_ownOf 1 = .ok (.istore_n 2, 1) := by decide +kernel
theorem dX12_ownOf_2 : decode cX12_ownOf 2 = .ok (.iconst 0, 1) := by decide +kernel
theorem dX12_ownOf_3 : decode cX12_ownOf 3 = .ok (.istore_n 3, 1) := by decide +kernel
theorem dX12_ownOf_4 : decode cX12_ownOf 4 = .ok (.iload_n 3, 1) := by decide +kernel
theorem dX12_ownOf_5 : decode cX12_ownOf 5 = .ok (.aload_n 0, 1) := by decide +kernel
theorem dX12_ownOf_6 : decode cX12_ownOf 6 = .ok (.invokevirtual 57, 3) := by decide +kernel
theorem dX12_ownOf_9 : decode cX12_ownOf 9 = .ok (.if_icmp .ge 29, 3) := by decide +kernel
theorem dX12_ownOf_12 : decode cX12_ownOf 12 = .ok (.iload_n 2, 1) := by decide +kernel
theorem dX12_ownOf_13 : decode cX12_ownOf 13 = .ok (.aload_n 0, 1) := by decide +kernel
theorem dX12_ownOf_14 : decode cX12_ownOf 14 = .ok (.iload_n 3, 1) := by decide +kernel
theorem dX12_ownOf_15 : decode cX12_ownOf 15 = .ok (.iconst 3, 1) := by decide +kernel
theorem dX12_ownOf_16 : decode cX12_ownOf 16 = .ok (.invokevirtual 104, 3) := by decide +kernel
theorem dX12_ownOf_19 : decode cX12_ownOf 19 = .ok (.iload_n 1, 1) := by decide +kernel
theorem dX12_ownOf_20 : decode cX12_ownOf 20 = .ok (.if_icmp .ne 9, 3) := by decide +kernel
theorem dX12_ownOf_23 : decode cX12_ownOf 23 = .ok (.iconst 1, 1) := by decide +kernel
theorem dX12_ownOf_24 : decode cX12_ownOf 24 = .ok (.iload_n 3, 1) := by decide +kernel
theorem dX12_ownOf_25 : decode cX12_ownOf 25 = .ok (.ishl, 1) := by decide +kernel
theorem dX12_ownOf_26 : decode cX12_ownOf 26 = .ok (.goto 4, 3) := by decide +kernel
theorem dX12_ownOf_29 : decode cX12_ownOf 29 = .ok (.iconst 0, 1) := by decide +kernel
theorem dX12_ownOf_30 : decode cX12_ownOf 30 = .ok (.ior, 1) := by decide +kernel
theorem dX12_ownOf_31 : decode cX12_ownOf 31 = .ok (.istore_n 2, 1) := by decide +kernel
theorem dX12_ownOf_32 : decode cX12_ownOf 32 = .ok (.iinc 3 1, 3) := by decide +kernel
theorem dX12_ownOf_35 : decode cX12_ownOf 35 = .ok (.goto (-31), 3) := by decide +kernel
theorem dX12_ownOf_38 : decode cX12_ownOf 38 = .ok (.iload_n 2, 1) := by decide +kernel
theorem dX12_ownOf_39 : decode cX12_ownOf 39 = .ok (.ireturn, 1) := by decide +kernel
theorem dX12_layGets_0 : decode cX12_layGets 0 = .ok (.aload_n 0, 1) := by decide +kernel
theorem dX12_layGets_1 : decode cX12_layGets 1 = .ok (.invokevirtual 154, 3) := by decide +kernel
theorem dX12_layGets_4 : decode cX12_layGets 4 = .ok (.aload_n 0, 1) := by decide +kernel
theorem dX12_layGets_5 : decode cX12_layGets 5 = .ok (.getfield 126, 3) := by decide +kernel
theorem dX12_layGets_8 : decode cX12_layGets 8 = .ok (.aload_n 0, 1) := by decide +kernel
theorem dX12_layGets_9 : decode cX12_layGets 9 = .ok (.iload_n 1, 1) := by decide +kernel
theorem dX12_layGets_10 : decode cX12_layGets 10 = .ok (.invokevirtual 183, 3) := by decide +kernel
theorem dX12_layGets_13 : decode cX12_layGets 13 = .ok (.iconst (-1), 1) := by decide +kernel
theorem dX12_layGets_14 : decode cX12_layGets 14 = .ok (.ixor, 1) := by decide +kernel
theorem dX12_layGets_15 : decode cX12_layGets 15 = .ok (.iand, 1) := by decide +kernel
theorem dX12_layGets_16 : decode cX12_layGets 16 = .ok (.aload_n 0, 1) := by decide +kernel
theorem dX12_layGets_17 : decode cX12_layGets 17 = .ok (.iload_n 2, 1) := by decide +kernel
theorem dX12_layGets_18 : decode cX12_layGets 18 = .ok (.invokevirtual 183, 3) := by decide +kernel
theorem dX12_layGets_21 : decode cX12_layGets 21 = .ok (.iconst (-1), 1) := by decide +kernel
theorem dX12_layGets_22 : decode cX12_layGets 22 = .ok (.ixor, 1) := by decide +kernel
theorem dX12_layGets_23 : decode cX12_layGets 23 = .ok (.iand, 1) := by decide +kernel
theorem dX12_layGets_24 : decode cX12_layGets 24 = .ok (.istore 5, 2) := by decide +kernel
theorem dX12_layGets_26 : decode cX12_layGets 26 = .ok (.iconst 0, 1) := by decide +kernel
theorem dX12_layGets_27 : decode cX12_layGets 27 = .ok (.istore 6, 2) := by decide +kernel
theorem dX12_layGets_29 : decode cX12_layGets 29 = .ok (.iload 6, 2) := by decide +kernel
theorem dX12_layGets_31 : decode cX12_layGets 31 = .ok (.iconst 4, 1) := by decide +kernel
theorem dX12_layGets_32 : decode cX12_layGets 32 = .ok (.if_icmp .ge 107, 3) := by decide +kernel
theorem dX12_layGets_35 : decode cX12_layGets 35 = .ok (.iload 6, 2) := by decide +kernel
theorem dX12_layGets_37 : decode cX12_layGets 37 = .ok (.iconst 1, 1) := by decide +kernel
theorem dX12_layGets_38 : decode cX12_layGets 38 = .ok (.iand, 1) := by decide +kernel
theorem dX12_layGets_39 : decode cX12_layGets 39 = .ok (.iconst 1, 1) := by decide +kernel
theorem dX12_layGets_40 : decode cX12_layGets 40 = .ok (.if_icmp .ne 11, 3) := by decide +kernel
theorem dX12_layGets_43 : decode cX12_layGets 43 = .ok (.aload_n 0, 1) := by decide +kernel
theorem dX12_layGets_44 : decode cX12_layGets 44 = .ok (.iload_n 1, 1) := by decide +kernel
theorem dX12_layGets_45 : decode cX12_layGets 45 = .ok (.invokevirtual 183, 3) := by decide +kernel
theorem dX12_layGets_48 : decode cX12_layGets 48 = .ok (.goto 4, 3) := by decide +kernel
theorem dX12_layGets_51 : decode cX12_layGets 51 = .ok (.iconst 0, 1) := by decide +kernel
theorem dX12_layGets_52 : decode cX12_layGets 52 = .ok (.istore 7, 2) := by decide +kernel
theorem dX12_layGets_54 : decode cX12_layGets 54 = .ok (.iload 6, 2) := by decide +kernel
theorem dX12_layGets_56 : decode cX12_layGets 56 = .ok (.iconst 1, 1) := by decide +kernel
theorem dX12_layGets_57 : decode cX12_layGets 57 = .ok (.if_icmp .le 11, 3) := by decide +kernel
theorem dX12_layGets_60 : decode cX12_layGets 60 = .ok (.aload_n 0, 1) := by decide +kernel
theorem dX12_layGets_61 : decode cX12_layGets 61 = .ok (.iload_n 2, 1) := by decide +kernel
theorem dX12_layGets_62 : decode cX12_layGets 62 = .ok (.invokevirtual 183, 3) := by decide +kernel
theorem dX12_layGets_65 : decode cX12_layGets 65 = .ok (.goto 4, 3) := by decide +kernel
theorem dX12_layGets_68 : decode cX12_layGets 68 = .ok (.iconst 0, 1) := by decide +kernel
theorem dX12_layGets_69 : decode cX12_layGets 69 = .ok (.istore 8, 2) := by decide +kernel
theorem dX12_layGets_71 : decode cX12_layGets 71 = .ok (.aload_n 0, 1) := by decide +kernel
theorem dX12_layGets_72 : decode cX12_layGets 72 = .ok (.iload 5, 2) := by decide +kernel
theorem dX12_layGets_74 : decode cX12_layGets 74 = .ok (.iload 7, 2) := by decide +kernel
theorem dX12_layGets_76 : decode cX12_layGets 76 = .ok (.ior, 1) := by decide +kernel
theorem dX12_layGets_77 : decode cX12_layGets 77 = .ok (.iload 8, 2) := by decide +kernel
theorem dX12_layGets_79 : decode cX12_layGets 79 = .ok (.ior, 1) := by decide +kernel
theorem dX12_layGets_80 : decode cX12_layGets 80 = .ok (.putfield 126, 3) := by decide +kernel
theorem dX12_layGets_83 : decode cX12_layGets 83 = .ok (.aload_n 0, 1) := by decide +kernel
theorem dX12_layGets_84 : decode cX12_layGets 84 = .ok (.getfield 36, 3) := by decide +kernel
theorem dX12_layGets_87 : decode cX12_layGets 87 = .ok (.iload 6, 2) := by decide +kernel
theorem dX12_layGets_89 : decode cX12_layGets 89 = .ok (.aload_n 0, 1) := by decide +kernel
theorem dX12_layGets_90 : decode cX12_layGets 90 = .ok (.iload_n 1, 1) := by decide +kernel
theorem dX12_layGets_91 : decode cX12_layGets 91 = .ok (.iload_n 3, 1) := by decide +kernel
theorem dX12_layGets_92 : decode cX12_layGets 92 = .ok (.invokevirtual 172, 3) := by decide +kernel
theorem dX12_layGets_95 : decode cX12_layGets 95 = .ok (.iload 4, 2) := by decide +kernel
theorem dX12_layGets_97 : decode cX12_layGets 97 = .ok (.iload 7, 2) := by decide +kernel
theorem dX12_layGets_99 : decode cX12_layGets 99 = .ok (.invokestatic 162, 3) := by decide +kernel
theorem dX12_layGets_102 : decode cX12_layGets 102 = .ok (.imul, 1) := by decide +kernel
theorem dX12_layGets_103 : decode cX12_layGets 103 = .ok (.bipush 10, 2) := by decide +kernel
theorem dX12_layGets_105 : decode cX12_layGets 105 = .ok (.idiv, 1) := by decide +kernel
theorem dX12_layGets_106 : decode cX12_layGets 106 = .ok (.isub, 1) := by decide +kernel
theorem dX12_layGets_107 : decode cX12_layGets 107 = .ok (.iastore, 1) := by decide +kernel
theorem dX12_layGets_108 : decode cX12_layGets 108 = .ok (.aload_n 0, 1) := by decide +kernel
theorem dX12_layGets_109 : decode cX12_layGets 109 = .ok (.getfield 39, 3) := by decide +kernel
theorem dX12_layGets_112 : decode cX12_layGets 112 = .ok (.iload 6, 2) := by decide +kernel
theorem dX12_layGets_114 : decode cX12_layGets 114 = .ok (.aload_n 0, 1) := by decide +kernel
theorem dX12_layGets_115 : decode cX12_layGets 115 = .ok (.iload_n 2, 1) := by decide +kernel
theorem dX12_layGets_116 : decode cX12_layGets 116 = .ok (.iload_n 3, 1) := by decide +kernel
theorem dX12_layGets_117 : decode cX12_layGets 117 = .ok (.invokevirtual 172, 3) := by decide +kernel
theorem dX12_layGets_120 : decode cX12_layGets 120 = .ok (.iload 4, 2) := by decide +kernel
theorem dX12_layGets_122 : decode cX12_layGets 122 = .ok (.iload 8, 2) := by decide +kernel
theorem dX12_layGets_124 : decode cX12_layGets 124 = .ok (.invokestatic 162, 3) := by decide +kernel
theorem dX12_layGets_127 : decode cX12_layGets 127 = .ok (.imul, 1) := by decide +kernel
theorem dX12_layGets_128 : decode cX12_layGets 128 = .ok (.bipush 10, 2) := by decide +kernel
theorem dX12_layGets_130 : decode cX12_layGets 130 = .ok (.idiv, 1) := by decide +kernel
theorem dX12_layGets_131 : decode cX12_layGets 131 = .ok (.isub, 1) := by decide +kernel
theorem dX12_layGets_132 : decode cX12_layGets 132 = .ok (.iastore, 1) := by decide +kernel
theorem dX12_layGets_133 : decode cX12_layGets 133 = .ok (.iinc 6 1, 3) := by decide +kernel
theorem dX12_layGets_136 : decode cX12_layGets 136 = .ok (.goto (-107), 3) := by decide +kernel
theorem dX12_layGets_139 : decode cX12_layGets 139 = .ok (.return_, 1) := by decide +kernel
