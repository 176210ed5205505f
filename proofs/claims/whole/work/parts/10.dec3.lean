theorem dX11_undo_0 : decode cX11_undo 0 = .ok (.aload_n 0, 1) := by decide +kernel
theorem dX11_undo_1 : decode cX11_undo 1 = .ok (.getfield 12, 3) := by decide +kernel
theorem dX11_undo_4 : decode cX11_undo 4 = .ok (.getfield 125, 3) := by decide +kernel
theorem dX11_undo_7 : decode cX11_undo 7 = .ok (.ifCond .gt 8, 3) := by decide +kernel
theorem dX11_undo_10 : decode cX11_undo 10 = .ok (.aload_n 0, 1) := by decide +kernel
theorem dX11_undo_11 : decode cX11_undo 11 = .ok (.invokevirtual 119, 3) := by decide +kernel
theorem dX11_undo_14 : decode cX11_undo 14 = .ok (.ireturn, 1) := by decide +kernel
theorem dX11_undo_15 : decode cX11_undo 15 = .ok (.aload_n 0, 1) := by decide +kernel
theorem dX11_undo_16 : decode cX11_undo 16 = .ok (.getfield 12, 3) := by decide +kernel
theorem dX11_undo_19 : decode cX11_undo 19 = .ok (.invokevirtual 128, 3) := by decide +kernel
theorem dX11_undo_22 : decode cX11_undo 22 = .ok (.aload_n 0, 1) := by decide +kernel
theorem dX11_undo_23 : decode cX11_undo 23 = .ok (.getfield 12, 3) := by decide +kernel
theorem dX11_undo_26 : decode cX11_undo 26 = .ok (.getfield 122, 3) := by decide +kernel
theorem dX11_undo_29 : decode cX11_undo 29 = .ok (.ireturn, 1) := by decide +kernel
theorem dX11_type_0 : decode cX11_type 0 = .ok (.iload_n 1, 1) := by decide +kernel
theorem dX11_type_1 : decode cX11_type 1 = .ok (.iconst 0, 1) := by decide +kernel
theorem dX11_type_2 : decode cX11_type 2 = .ok (.bipush 127, 2) := by decide +kernel
theorem dX11_type_4 : decode cX11_type 4 = .ok (.invokestatic 73, 3) := by decide +kernel
theorem dX11_type_7 : decode cX11_type 7 = .ok (.ifCond .ne 10, 3) := by decide +kernel
theorem dX11_type_10 : decode cX11_type 10 = .ok (.aload_n 0, 1) := by decide +kernel
theorem dX11_type_11 : decode cX11_type 11 = .ok (.bipush (-2), 2) := by decide +kernel
theorem dX11_type_13 : decode cX11_type 13 = .ok (.invokevirtual 77, 3) := by decide +kernel
theorem dX11_type_16 : decode cX11_type 16 = .ok (.ireturn, 1) := by decide +kernel
theorem dX11_type_17 : decode cX11_type 17 = .ok (.aload_n 0, 1) := by decide +kernel
theorem dX11_type_18 : decode cX11_type 18 = .ok (.getfield 27, 3) := by decide +kernel
theorem dX11_type_21 : decode cX11_type 21 = .ok (.getfield 131, 3) := by decide +kernel
theorem dX11_type_24 : decode cX11_type 24 = .ok (.sipush 150, 3) := by decide +kernel
theorem dX11_type_27 : decode cX11_type 27 = .ok (.if_icmp .lt 8, 3) := by decide +kernel
theorem dX11_type_30 : decode cX11_type 30 = .ok (.aload_n 0, 1) := by decide +kernel
theorem dX11_type_31 : decode cX11_type 31 = .ok (.invokevirtual 98, 3) := by decide +kernel
theorem dX11_type_34 : decode cX11_type 34 = .ok (.ireturn, 1) := by decide +kernel
theorem dX11_type_35 : decode cX11_type 35 = .ok (.aload_n 0, 1) := by decide +kernel
theorem dX11_type_36 : decode cX11_type 36 = .ok (.getfield 27, 3) := by decide +kernel
theorem dX11_type_39 : decode cX11_type 39 = .ok (.iload_n 1, 1) := by decide +kernel
theorem dX11_type_40 : decode cX11_type 40 = .ok (.invokevirtual 134, 3) := by decide +kernel
theorem dX11_type_43 : decode cX11_type 43 = .ok (.ireturn, 1) := by decide +kernel
theorem dX11_clear_0 : decode cX11_clear 0 = .ok (.aload_n 0, 1) := by decide +kernel
theorem dX11_clear_1 : decode cX11_clear 1 = .ok (.getfield 27, 3) := by decide +kernel
theorem dX11_clear_4 : decode cX11_clear 4 = .ok (.getfield 131, 3) := by decide +kernel
theorem dX11_clear_7 : decode cX11_clear 7 = .ok (.istore_n 1, 1) := by decide +kernel
theorem dX11_clear_8 : decode cX11_clear 8 = .ok (.aload_n 0, 1) := by decide +kernel
theorem dX11_clear_9 : decode cX11_clear 9 = .ok (.getfield 27, 3) := by decide +kernel
theorem dX11_clear_12 : decode cX11_clear 12 = .ok (.iconst 0, 1) := by decide +kernel
theorem dX11_clear_13 : decode cX11_clear 13 = .ok (.putfield 131, 3) := by decide +kernel
theorem dX11_clear_16 : decode cX11_clear 16 = .ok (.iload_n 1, 1) := by decide +kernel
theorem dX11_clear_17 : decode cX11_clear 17 = .ok (.ireturn, 1) := by decide +kernel
theorem dX11_read_0 : decode cX11_read 0 = .ok (.aload_n 0, 1) := by decide +kernel
theorem dX11_read_1 : decode cX11_read 1 = .ok (.getfield 27, 3) := by decide +kernel
theorem dX11_read_4 : decode cX11_read 4 = .ok (.invokevirtual 137, 3) := by decide +kernel
theorem dX11_read_7 : decode cX11_read 7 = .ok (.istore_n 1, 1) := by decide +kernel
theorem dX11_read_8 : decode cX11_read 8 = .ok (.iload_n 1, 1) := by decide +kernel
theorem dX11_read_9 : decode cX11_read 9 = .ok (.ifCond .lt 17, 3) := by decide +kernel
theorem dX11_read_12 : decode cX11_read 12 = .ok (.aload_n 0, 1) := by decide +kernel
theorem dX11_read_13 : decode cX11_read 13 = .ok (.getfield 12, 3) := by decide +kernel
theorem dX11_read_16 : decode cX11_read 16 = .ok (.aload_n 0, 1) := by decide +kernel
theorem dX11_read_17 : decode cX11_read 17 = .ok (.getfield 27, 3) := by decide +kernel
theorem dX11_read_20 : decode cX11_read 20 = .ok (.getfield 140, 3) := by decide +kernel
theorem dX11_read_23 : decode cX11_read 23 = .ok (.invokevirtual 143, 3) := by decide +kernel
theorem dX11_read_26 : decode cX11_read 26 = .ok (.iload_n 1, 1) := by decide +kernel
theorem dX11_read_27 : decode cX11_read 27 = .ok (.ireturn, 1) := by decide +kernel
theorem dX11_of_0 : decode cX11_of 0 = .ok (.aload_n 0, 1) := by decide +kernel
theorem dX11_of_1 : decode cX11_of 1 = .ok (.getfield 12, 3) := by decide +kernel
theorem dX11_of_4 : decode cX11_of 4 = .ok (.iload_n 1, 1) := by decide +kernel
theorem dX11_of_5 : decode cX11_of 5 = .ok (.invokevirtual 106, 3) := by decide +kernel
theorem dX11_of_8 : decode cX11_of 8 = .ok (.ifCond .ne 10, 3) := by decide +kernel
theorem dX11_of_11 : decode cX11_of 11 = .ok (.aload_n 0, 1) := by decide +kernel
theorem dX11_of_12 : decode cX11_of 12 = .ok (.bipush (-2), 2) := by decide +kernel
theorem dX11_of_14 : decode cX11_of 14 = .ok (.invokevirtual 77, 3) := by decide +kernel
theorem dX11_of_17 : decode cX11_of 17 = .ok (.ireturn, 1) := by decide +kernel
theorem dX11_of_18 : decode cX11_of 18 = .ok (.iload_n 2, 1) := by decide +kernel
theorem dX11_of_19 : decode cX11_of 19 = .ok (.tableswitch 109 0 6 #[41, 51, 61, 71, 81, 91, 100], 41) := by decide +kernel
theorem dX11_of_60 : decode cX11_of 60 = .ok (.aload_n 0, 1) := by decide +kernel
theorem dX11_of_61 : decode cX11_of 61 = .ok (.getfield 12, 3) := by decide +kernel
theorem dX11_of_64 : decode cX11_of 64 = .ok (.getfield 146, 3) := by decide +kernel
theorem dX11_of_67 : decode cX11_of 67 = .ok (.iload_n 1, 1) := by decide +kernel
theorem dX11_of_68 : decode cX11_of 68 = .ok (.iaload, 1) := by decide +kernel
theorem dX11_of_69 : decode cX11_of 69 = .ok (.ireturn, 1) := by decide +kernel
theorem dX11_of_70 : decode cX11_of 70 = .ok (.aload_n 0, 1) := by decide +kernel
theorem dX11_of_71 : decode cX11_of 71 = .ok (.getfield 12, 3) := by decide +kernel
theorem dX11_of_74 : decode cX11_of 74 = .ok (.getfield 112, 3) := by decide +kernel
theorem dX11_of_77 : decode cX11_of 77 = .ok (.iload_n 1, 1) := by decide +kernel
theorem dX11_of_78 : decode cX11_of 78 = .ok (.iaload, 1) := by decide +kernel
theorem dX11_of_79 : decode cX11_of 79 = .ok (.ireturn, 1) := by decide +kernel
theorem dX11_of_80 : decode cX11_of 80 = .ok (.aload_n 0, 1) := by decide +kernel
theorem dX11_of_81 : decode cX11_of 81 = .ok (.getfield 12, 3) := by decide +kernel
theorem dX11_of_84 : decode cX11_of 84 = .ok (.getfield 149, 3) := by decide +kernel
theorem dX11_of_87 : decode cX11_of 87 = .ok (.iload_n 1, 1) := by decide +kernel
theorem dX11_of_88 : decode cX11_of 88 = .ok (.iaload, 1) := by decide +kernel
theorem dX11_of_89 : decode cX11_of 89 = .ok (.ireturn, 1) := by decide +kernel
theorem dX11_of_90 : decode cX11_of 90 = .ok (.aload_n 0, 1) := by decide +kernel
theorem dX11_of_91 : decode cX11_of 91 = .ok (.getfield 12, 3) := by decide +kernel
theorem dX11_of_94 : decode cX11_of 94 = .ok (.getfield 152, 3) := by decide +kernel
theorem dX11_of_97 : decode cX11_of 97 = .ok (.iload_n 1, 1) := by decide +kernel
theorem dX11_of_98 : decode cX11_of 98 = .ok (.iaload, 1) := by decide +kernel
theorem dX11_of_99 : decode cX11_of 99 = .ok (.ireturn, 1) := by decide +kernel
theorem dX11_of_100 : decode cX11_of 100 = .ok (.aload_n 0, 1) := by decide +kernel
theorem dX11_of_101 : decode cX11_of 101 = .ok (.getfield 12, 3) := by decide +kernel
theorem dX11_of_104 : decode cX11_of 104 = .ok (.getfield 155, 3) := by decide +kernel
theorem dX11_of_107 : decode cX11_of 107 = .ok (.iload_n 1, 1) := by decide +kernel
theorem dX11_of_108 : decode cX11_of 108 = .ok (.iaload, 1) := by decide +kernel
theorem dX11_of_109 : decode cX11_of 109 = .ok (.ireturn, 1) := by decide +kernel
theorem dX11_of_110 : decode cX11_of 110 = .ok (.aload_n 0, 1) := by decide +kernel
theorem dX11_of_111 : decode cX11_of 111 = .ok (.getfield 12, 3) := by decide +kernel
theorem dX11_of_114 : decode cX11_of 114 = .ok (.iload_n 1, 1) := by decide +kernel
theorem dX11_of_115 : decode cX11_of 115 = .ok (.invokevirtual 116, 3) := by decide +kernel
theorem dX11_of_118 : decode cX11_of 118 = .ok (.ireturn, 1) := by decide +kernel
theorem dX11_of_119 : decode cX11_of 119 = .ok (.aload_n 0, 1) := by decide +kernel
theorem dX11_of_120 : decode cX11_of 120 = .ok (.getfield 36, 3) := by decide +kernel
theorem dX11_of_123 : decode cX11_of 123 = .ok (.iload_n 1, 1) := by decide +kernel
theorem dX11_of_124 : decode cX11_of 124 = .ok (.invokevirtual 158, 3) := by decide +kernel
theorem dX11_of_127 : decode cX11_of 127 = .ok (.ireturn, 1) := by decide +kernel
theorem dX11_of_128 : decode cX11_of 128 = .ok (.aload_n 0, 1) := by decide +kernel
theorem dX11_of_129 : decode cX11_of 129 = .ok (.bipush (-2), 2) := by decide +kernel
theorem dX11_of_131 : decode cX11_of 131 = .ok (.invokevirtual 77, 3) := by decide +kernel
theorem dX11_of_134 : decode cX11_of 134 = .ok (.ireturn, 1) := by decide +kernel
theorem dX11_shines_0 : decode cX11_shines 0 = .ok (.aload_n 0, 1) := by decide +kernel
theorem dX11_shines_1 : decode cX11_shines 1 = .ok (.getfield 12, 3) := by decide +kernel
theorem dX11_shines_4 : decode cX11_shines 4 = .ok (.iload_n 1, 1) := by decide +kernel
theorem dX11_shines_5 : decode cX11_shines 5 = .ok (.invokevirtual 106, 3) := by decide +kernel
theorem dX11_shines_8 : decode cX11_shines 8 = .ok (.ifCond .eq 17, 3) := by decide +kernel
theorem dX11_shines_11 : decode cX11_shines 11 = .ok (.iload_n 2, 1) := by decide +kernel
theorem dX11_shines_12 : decode cX11_shines 12 = .ok (.invokestatic 91, 3) := by decide +kernel
theorem dX11_shines_15 : decode cX11_shines 15 = .ok (.ifCond .eq 10, 3) := by decide +kernel
theorem dX11_shines_18 : decode cX11_shines 18 = .ok (.iload_n 3, 1) := by decide +kernel
theorem dX11_shines_19 : decode cX11_shines 19 = .ok (.invokestatic 161, 3) := by decide +kernel
theorem dX11_shines_22 : decode cX11_shines 22 = .ok (.ifCond .ne 10, 3) := by decide +kernel
theorem dX11_shines_25 : decode cX11_shines 25 = .ok (.aload_n 0, 1) := by decide +kernel
theorem dX11_shines_26 : decode cX11_shines 26 = .ok (.bipush (-2), 2) := by decide +kernel
theorem dX11_shines_28 : decode cX11_shines 28 = .ok (.invokevirtual 77, 3) := by decide +kernel
theorem dX11_shines_31 : decode cX11_shines 31 = .ok (.ireturn, 1) := by decide +kernel
theorem dX11_shines_32 : decode cX11_shines 32 = .ok (.aload_n 0, 1) := by decide +kernel
theorem dX11_shines_33 : decode cX11_shines 33 = .ok (.getfield 12, 3) := by decide +kernel
theorem dX11_shines_36 : decode cX11_shines 36 = .ok (.iload_n 1, 1) := by decide +kernel
theorem dX11_shines_37 : decode cX11_shines 37 = .ok (.invokevirtual 116, 3) := by decide +kernel
theorem dX11_shines_40 : decode cX11_shines 40 = .ok (.iconst 1, 1) := by decide +kernel
theorem dX11_shines_41 : decode cX11_shines 41 = .ok (.if_icmp .ne 24, 3) := by decide +kernel
theorem dX11_shines_44 : decode cX11_shines 44 = .ok (.aload_n 0, 1) := by decide +kernel
theorem dX11_shines_45 : decode cX11_shines 45 = .ok (.getfield 36, 3) := by decide +kernel
theorem dX11_shines_48 : decode cX11_shines 48 = .ok (.iload_n 1, 1) := by decide +kernel
theorem dX11_shines_49 : decode cX11_shines 49 = .ok (.aload_n 0, 1) := by decide +kernel
theorem dX11_shines_50 : decode cX11_shines 50 = .ok (.getfield 12, 3) := by decide +kernel
theorem dX11_shines_53 : decode cX11_shines 53 = .ok (.iload_n 1, 1) := by decide +kernel
theorem dX11_shines_54 : decode cX11_shines 54 = .ok (.iload_n 2, 1) := by decide +kernel
theorem dX11_shines_55 : decode cX11_shines 55 = .ok (.invokevirtual 164, 3) := by decide +kernel
theorem dX11_shines_58 : decode cX11_shines 58 = .ok (.iload_n 3, 1) := by decide +kernel
theorem dX11_shines_59 : decode cX11_shines 59 = .ok (.invokevirtual 168, 3) := by decide +kernel
theorem dX11_shines_62 : decode cX11_shines 62 = .ok (.goto 4, 3) := by decide +kernel
theorem dX11_shines_65 : decode cX11_shines 65 = .ok (.iconst 0, 1) := by decide +kernel
theorem dX11_shines_66 : decode cX11_shines 66 = .ok (.ireturn, 1) := by decide +kernel
theorem dX11_cell_0 : decode cX11_cell 0 = .ok (.iload_n 1, 1) := by decide +kernel
theorem dX11_cell_1 : decode cX11_cell 1 = .ok (.invokestatic 91, 3) := by decide +kernel
theorem dX11_cell_4 : decode cX11_cell 4 = .ok (.ifCond .eq 19, 3) := by decide +kernel
theorem dX11_cell_7 : decode cX11_cell 7 = .ok (.iload_n 2, 1) := by decide +kernel
theorem dX11_cell_8 : decode cX11_cell 8 = .ok (.invokestatic 161, 3) := by decide +kernel
theorem dX11_cell_11 : decode cX11_cell 11 = .ok (.ifCond .eq 12, 3) := by decide +kernel
theorem dX11_cell_14 : decode cX11_cell 14 = .ok (.iload_n 3, 1) := by decide +kernel
theorem dX11_cell_15 : decode cX11_cell 15 = .ok (.iconst 0, 1) := by decide +kernel
theorem dX11_cell_16 : decode cX11_cell 16 = .ok (.iconst 2, 1) := by decide +kernel
theorem dX11_cell_17 : decode cX11_cell 17 = .ok (.invokestatic 73, 3) := by decide +kernel
theorem dX11_cell_20 : decode cX11_cell 20 = .ok (.ifCond .ne 10, 3) := by decide +kernel
theorem dX11_cell_23 : decode cX11_cell 23 = .ok (.aload_n 0, 1) := by decide +kernel
theorem dX11_cell_24 : decode cX11_cell 24 = .ok (.bipush (-10), 2) := by decide +kernel
theorem dX11_cell_26 : decode cX11_cell 26 = .ok (.invokevirtual 77, 3) := by decide +kernel
theorem dX11_cell_29 : decode cX11_cell 29 = .ok (.ireturn, 1) := by decide +kernel
theorem dX11_cell_30 : decode cX11_cell 30 = .ok (.aload_n 0, 1) := by decide +kernel
theorem dX11_cell_31 : decode cX11_cell 31 = .ok (.getfield 36, 3) := by decide +kernel
theorem dX11_cell_34 : decode cX11_cell 34 = .ok (.iload_n 1, 1) := by decide +kernel
theorem dX11_cell_35 : decode cX11_cell 35 = .ok (.iload_n 2, 1) := by decide +kernel
theorem dX11_cell_36 : decode cX11_cell 36 = .ok (.invokevirtual 172, 3) := by decide +kernel
theorem dX11_cell_39 : decode cX11_cell 39 = .ok (.iload_n 3, 1) := by decide +kernel
theorem dX11_cell_40 : decode cX11_cell 40 = .ok (.ifCond .ne 19, 3) := by decide +kernel
theorem dX11_cell_43 : decode cX11_cell 43 = .ok (.aload_n 0, 1) := by decide +kernel
theorem dX11_cell_44 : decode cX11_cell 44 = .ok (.getfield 36, 3) := by decide +kernel
theorem dX11_cell_47 : decode cX11_cell 47 = .ok (.iload_n 1, 1) := by decide +kernel
theorem dX11_cell_48 : decode cX11_cell 48 = .ok (.aload_n 0, 1) := by decide +kernel
theorem dX11_cell_49 : decode cX11_cell 49 = .ok (.getfield 12, 3) := by decide +kernel
theorem dX11_cell_52 : decode cX11_cell 52 = .ok (.getfield 122, 3) := by decide +kernel
theorem dX11_cell_55 : decode cX11_cell 55 = .ok (.invokevirtual 176, 3) := by decide +kernel
theorem dX11_cell_58 : decode cX11_cell 58 = .ok (.ireturn, 1) := by decide +kernel
theorem dX11_cell_59 : decode cX11_cell 59 = .ok (.aload_n 0, 1) := by decide +kernel
theorem dX11_cell_60 : decode cX11_cell 60 = .ok (.getfield 36, 3) := by decide +kernel
theorem dX11_cell_63 : decode cX11_cell 63 = .ok (.iload_n 1, 1) := by decide +kernel
theorem dX11_cell_64 : decode cX11_cell 64 = .ok (.aload_n 0, 1) := by decide +kernel
theorem dX11_cell_65 : decode cX11_cell 65 = .ok (.getfield 12, 3) := by decide +kernel
theorem dX11_cell_68 : decode cX11_cell 68 = .ok (.getfield 122, 3) := by decide +kernel
theorem dX11_cell_71 : decode cX11_cell 71 = .ok (.aload_n 0, 1) := by decide +kernel
theorem dX11_cell_72 : decode cX11_cell 72 = .ok (.getfield 12, 3) := by decide +kernel
theorem dX11_cell_75 : decode cX11_cell 75 = .ok (.getfield 152, 3) := by decide +kernel
theorem dX11_cell_78 : decode cX11_cell 78 = .ok (.invokevirtual 179, 3) := by decide +kernel
theorem dX11_cell_81 : decode cX11_cell 81 = .ok (.istore 4, 2) := by decide +kernel
theorem dX11_cell_83 : decode cX11_cell 83 = .ok (.iload_n 3, 1) := by decide +kernel
theorem dX11_cell_84 : decode cX11_cell 84 = .ok (.iconst 1, 1) := by decide +kernel
theorem dX11_cell_85 : decode cX11_cell 85 = .ok (.if_icmp .ne 17, 3) := by decide +kernel
theorem dX11_cell_88 : decode cX11_cell 88 = .ok (.iload 4, 2) := by decide +kernel
theorem dX11_cell_90 : decode cX11_cell 90 = .ok (.bipush (-2), 2) := by decide +kernel
theorem dX11_cell_92 : decode cX11_cell 92 = .ok (.if_icmp .ne 7, 3) := by decide +kernel
theorem dX11_cell_95 : decode cX11_cell 95 = .ok (.iconst (-1), 1) := by decide +kernel
theorem dX11_cell_96 : decode cX11_cell 96 = .ok (.goto 5, 3) := by decide +kernel
theorem dX11_cell_99 : decode cX11_cell 99 = .ok (.iload 4, 2) := by decide +kernel
theorem dX11_cell_101 : decode cX11_cell 101 = .ok (.ireturn, 1) := by decide +kernel
theorem dX11_cell_102 : decode cX11_cell 102 = .ok (.iload 4, 2) := by decide +kernel
theorem dX11_cell_104 : decode cX11_cell 104 = .ok (.bipush (-2), 2) := by decide +kernel
theorem dX11_cell_106 : decode cX11_cell 106 = .ok (.if_icmp .ne 7, 3) := by decide +kernel
theorem dX11_cell_109 : decode cX11_cell 109 = .ok (.iconst 1, 1) := by decide +kernel
theorem dX11_cell_110 : decode cX11_cell 110 = .ok (.goto 4, 3) := by decide +kernel
theorem dX11_cell_113 : decode cX11_cell 113 = .ok (.iconst 0, 1) := by decide +kernel
theorem dX11_cell_114 : decode cX11_cell 114 = .ok (.ireturn, 1) := by decide +kernel
theorem dX11_acres_0 : decode cX11_acres 0 = .ok (.iload_n 1, 1) := by decide +kernel
theorem dX11_acres_1 : decode cX11_acres 1 = .ok (.invokestatic 95, 3) := by decide +kernel
theorem dX11_acres_4 : decode cX11_acres 4 = .ok (.ifCond .eq 15, 3) := by decide +kernel
theorem dX11_acres_7 : decode cX11_acres 7 = .ok (.iload_n 2, 1) := by decide +kernel
theorem dX11_acres_8 : decode cX11_acres 8 = .ok (.invokestatic 161, 3) := by decide +kernel
theorem dX11_acres_11 : decode cX11_acres 11 = .ok (.ifCond .eq 8, 3) := by decide +kernel
theorem dX11_acres_14 : decode cX11_acres 14 = .ok (.iload_n 3, 1) := by decide +kernel
theorem dX11_acres_15 : decode cX11_acres 15 = .ok (.iconst (-1), 1) := by decide +kernel
theorem dX11_acres_16 : decode cX11_acres 16 = .ok (.if_icmp .ge 10, 3) := by decide +kernel
theorem dX11_acres_19 : decode cX11_acres 19 = .ok (.aload_n 0, 1) := by decide +kernel
theorem dX11_acres_20 : decode cX11_acres 20 = .ok (.bipush (-10), 2) := by decide +kernel
theorem dX11_acres_22 : decode cX11_acres 22 = .ok (.invokevirtual 77, 3) := by decide +kernel
theorem dX11_acres_25 : decode cX11_acres 25 = .ok (.ireturn, 1) := by decide +kernel
theorem dX11_acres_26 : decode cX11_acres 26 = .ok (.aload_n 0, 1) := by decide +kernel
theorem dX11_acres_27 : decode cX11_acres 27 = .ok (.getfield 36, 3) := by decide +kernel
theorem dX11_acres_30 : decode cX11_acres 30 = .ok (.iload_n 2, 1) := by decide +kernel
theorem dX11_acres_31 : decode cX11_acres 31 = .ok (.invokevirtual 183, 3) := by decide +kernel
theorem dX11_acres_34 : decode cX11_acres 34 = .ok (.aload_n 0, 1) := by decide +kernel
theorem dX11_acres_35 : decode cX11_acres 35 = .ok (.getfield 36, 3) := by decide +kernel
theorem dX11_acres_38 : decode cX11_acres 38 = .ok (.iload_n 1, 1) := by decide +kernel
theorem dX11_acres_39 : decode cX11_acres 39 = .ok (.iload_n 3, 1) := by decide +kernel
theorem dX11_acres_40 : decode cX11_acres 40 = .ok (.invokevirtual 186, 3) := by decide +kernel
theorem dX11_acres_43 : decode cX11_acres 43 = .ok (.ireturn, 1) := by decide +kernel
theorem dX11_hedges_0 : decode cX11_hedges 0 = .ok (.iload_n 1, 1) := by decide +kernel
theorem dX11_hedges_1 : decode cX11_hedges 1 = .ok (.invokestatic 161, 3) := by decide +kernel
theorem dX11_hedges_4 : decode cX11_hedges 4 = .ok (.ifCond .eq 8, 3) := by decide +kernel
theorem dX11_hedges_7 : decode cX11_hedges 7 = .ok (.iload_n 2, 1) := by decide +kernel
theorem dX11_hedges_8 : decode cX11_hedges 8 = .ok (.iconst (-1), 1) := by decide +kernel
theorem dX11_hedges_9 : decode cX11_hedges 9 = .ok (.if_icmp .ge 10, 3) := by decide +kernel
theorem dX11_hedges_12 : decode cX11_hedges 12 = .ok (.aload_n 0, 1) := by decide +kernel
theorem dX11_hedges_13 : decode cX11_hedges 13 = .ok (.bipush (-10), 2) := by decide +kernel
theorem dX11_hedges_15 : decode cX11_hedges 15 = .ok (.invokevirtual 77, 3) := by decide +kernel
theorem dX11_hedges_18 : decode cX11_hedges 18 = .ok (.ireturn, 1) := by decide +kernel
theorem dX11_hedges_19 : decode cX11_hedges 19 = .ok (.aload_n 0, 1) := by decide +kernel
theorem dX11_hedges_20 : decode cX11_hedges 20 = .ok (.getfield 36, 3) := by decide +kernel
theorem dX11_hedges_23 : decode cX11_hedges 23 = .ok (.iload_n 1, 1) := by decide +kernel
theorem dX11_hedges_24 : decode cX11_hedges 24 = .ok (.invokevirtual 183, 3) := by decide +kernel
theorem dX11_hedges_27 : decode cX11_hedges 27 = .ok (.aload_n 0, 1) := by decide +kernel
theorem dX11_hedges_28 : decode cX11_hedges 28 = .ok (.getfield 36, 3) := by decide +kernel
theorem dX11_hedges_31 : decode cX11_hedges 31 = .ok (.bipush (-2), 2) := by decide +kernel
theorem dX11_hedges_33 : decode cX11_hedges 33 = .ok (.iload_n 2, 1) := by decide +kernel
theorem dX11_hedges_34 : decode cX11_hedges 34 = .ok (.invokevirtual 186, 3) := by decide +kernel
theorem dX11_hedges_37 : decode cX11_hedges 37 = .ok (.ireturn, 1) := by decide +kernel
theorem dX11_dark_0 : decode cX11_dark 0 = .ok (.iload_n 1, 1) := by decide +kernel
theorem dX11_dark_1 : decode cX11_dark 1 = .ok (.invokestatic 91, 3) := by decide +kernel
theorem dX11_dark_4 : decode cX11_dark 4 = .ok (.ifCond .eq 20, 3) := by decide +kernel
theorem dX11_dark_7 : decode cX11_dark 7 = .ok (.iload_n 2, 1) := by decide +kernel
theorem dX11_dark_8 : decode cX11_dark 8 = .ok (.invokestatic 161, 3) := by decide +kernel
theorem dX11_dark_11 : decode cX11_dark 11 = .ok (.ifCond .eq 13, 3) := by decide +kernel
theorem dX11_dark_14 : decode cX11_dark 14 = .ok (.iload_n 3, 1) := by decide +kernel
theorem dX11_dark_15 : decode cX11_dark 15 = .ok (.iconst 1, 1) := by decide +kernel
theorem dX11_dark_16 : decode cX11_dark 16 = .ok (.bipush 20, 2) := by decide +kernel
theorem dX11_dark_18 : decode cX11_dark 18 = .ok (.invokestatic 73, 3) := by decide +kernel
theorem dX11_dark_21 : decode cX11_dark 21 = .ok (.ifCond .ne 10, 3) := by decide +kernel
theorem dX11_dark_24 : decode cX11_dark 24 = .ok (.aload_n 0, 1) := by decide +kernel
theorem dX11_dark_25 : decode cX11_dark 25 = .ok (.bipush (-2), 2) := by decide +kernel
theorem dX11_dark_27 : decode cX11_dark 27 = .ok (.invokevirtual 77, 3) := by decide +kernel
theorem dX11_dark_30 : decode cX11_dark 30 = .ok (.ireturn, 1) := by decide +kernel
theorem dX11_dark_31 : decode cX11_dark 31 = .ok (.iload_n 2, 1) := by decide +kernel
theorem dX11_dark_32 : decode cX11_dark 32 = .ok (.istore 4, 2) := by decide +kernel
theorem dX11_dark_34 : decode cX11_dark 34 = .ok (.iload 4, 2) := by decide +kernel
theorem dX11_dark_36 : decode cX11_dark 36 = .ok (.bipush 12, 2) := by decide +kernel
theorem dX11_dark_38 : decode cX11_dark 38 = .ok (.if_icmp .ge 34, 3) := by decide +kernel
theorem dX11_dark_41 : decode cX11_dark 41 = .ok (.aload_n 0, 1) := by decide +kernel
theorem dX11_dark_42 : decode cX11_dark 42 = .ok (.getfield 36, 3) := by decide +kernel
theorem dX11_dark_45 : decode cX11_dark 45 = .ok (.iload_n 1, 1) := by decide +kernel
theorem dX11_dark_46 : decode cX11_dark 46 = .ok (.iload 4, 2) := by decide +kernel
theorem dX11_dark_48 : decode cX11_dark 48 = .ok (.iload_n 3, 1) := by decide +kernel
theorem dX11_dark_49 : decode cX11_dark 49 = .ok (.invokevirtual 189, 3) := by decide +kernel
theorem dX11_dark_52 : decode cX11_dark 52 = .ok (.aload_n 0, 1) := by decide +kernel
theorem dX11_dark_53 : decode cX11_dark 53 = .ok (.getfield 12, 3) := by decide +kernel
theorem dX11_dark_56 : decode cX11_dark 56 = .ok (.getfield 122, 3) := by decide +kernel
theorem dX11_dark_59 : decode cX11_dark 59 = .ok (.iand, 1) := by decide +kernel
theorem dX11_dark_60 : decode cX11_dark 60 = .ok (.ifCond .ne 6, 3) := by decide +kernel
theorem dX11_dark_63 : decode cX11_dark 63 = .ok (.iload 4, 2) := by decide +kernel
theorem dX11_dark_65 : decode cX11_dark 65 = .ok (.ireturn, 1) := by decide +kernel
theorem dX11_dark_66 : decode cX11_dark 66 = .ok (.iinc 4 1, 3) := by decide +kernel
theorem dX11_dark_69 : decode cX11_dark 69 = .ok (.goto (-35), 3) := by decide +kernel
theorem dX11_dark_72 : decode cX11_dark 72 = .ok (.bipush 12, 2) := by decide +kernel
theorem dX11_dark_74 : decode cX11_dark 74 = .ok (.ireturn, 1) := by decide +kernel
theorem dX11_want_0 : decode cX11_want 0 = .ok (.iload_n 1, 1) := by decide +kernel
theorem dX11_want_1 : decode cX11_want 1 = .ok (.invokestatic 91, 3) := by decide +kernel
theorem dX11_want_4 : decode cX11_want 4 = .ok (.ifCond .ne 10, 3) := by decide +kernel
theorem dX11_want_7 : decode cX11_want 7 = .ok (.aload_n 0, 1) := by decide +kernel
theorem dX11_want_8 : decode cX11_want 8 = .ok (.bipush (-2), 2) := by decide +kernel
theorem dX11_want_10 : decode cX11_want 10 = .ok (.invokevirtual 77, 3) := by decide +kernel
theorem dX11_want_13 : decode cX11_want 13 = .ok (.ireturn, 1) := by decide +kernel
theorem dX11_want_14 : decode cX11_want 14 = .ok (.aload_n 0, 1) := by decide +kernel
theorem dX11_want_15 : decode cX11_want 15 = .ok (.getfield 12, 3) := by decide +kernel
theorem dX11_want_18 : decode cX11_want 18 = .ok (.getfield 192, 3) := by decide +kernel
theorem dX11_want_21 : decode cX11_want 21 = .ok (.bipush 6, 2) := by decide +kernel
theorem dX11_want_23 : decode cX11_want 23 = .ok (.if_icmp .lt 8, 3) := by decide +kernel
theorem dX11_want_26 : decode cX11_want 26 = .ok (.aload_n 0, 1) := by decide +kernel
theorem dX11_want_27 : decode cX11_want 27 = .ok (.invokevirtual 98, 3) := by decide +kernel
theorem dX11_want_30 : decode cX11_want 30 = .ok (.ireturn, 1) := by decide +kernel
theorem dX11_want_31 : decode cX11_want 31 = .ok (.aload_n 0, 1) := by decide +kernel
theorem dX11_want_32 : decode cX11_want 32 = .ok (.getfield 12, 3) := by decide +kernel
theorem dX11_want_35 : decode cX11_want 35 = .ok (.getfield 195, 3) := by decide +kernel
theorem dX11_want_38 : decode cX11_want 38 = .ok (.aload_n 0, 1) := by decide +kernel
theorem dX11_want_39 : decode cX11_want 39 = .ok (.getfield 12, 3) := by decide +kernel
theorem dX11_want_42 : decode cX11_want 42 = .ok (.getfield 192, 3) := by decide +kernel
theorem dX11_want_45 : decode cX11_want 45 = .ok (.iload_n 1, 1) := by decide +kernel
theorem dX11_want_46 : decode cX11_want 46 = .ok (.iastore, 1) := by decide +kernel
theorem dX11_want_47 : decode cX11_want 47 = .ok (.aload_n 0, 1) := by decide +kernel
theorem dX11_want_48 : decode cX11_want 48 = .ok (.getfield 12, 3) := by decide +kernel
theorem dX11_want_51 : decode cX11_want 51 = .ok (.dup, 1) := by decide +kernel
theorem dX11_want_52 : decode cX11_want 52 = .ok (.getfield 192, 3) := by decide +kernel
theorem dX11_want_55 : decode cX11_want 55 = .ok (.iconst 1, 1) := by decide +kernel
theorem dX11_want_56 : decode cX11_want 56 = .ok (.iadd, 1) := by decide +kernel
theorem dX11_want_57 : decode cX11_want 57 = .ok (.putfield 192, 3) := by decide +kernel
theorem dX11_want_60 : decode cX11_want 60 = .ok (.aload_n 0, 1) := by decide +kernel
theorem dX11_want_61 : decode cX11_want 61 = .ok (.getfield 12, 3) := by decide +kernel
theorem dX11_want_64 : decode cX11_want 64 = .ok (.getfield 192, 3) := by decide +kernel
theorem dX11_want_67 : decode cX11_want 67 = .ok (.ireturn, 1) := by decide +kernel
theorem dX11_forget_0 : decode cX11_forget 0 = .ok (.aload_n 0, 1) := by decide +kernel
theorem dX11_forget_1 : decode cX11_forget 1 = .ok (.getfield 12, 3) := by decide +kernel
theorem dX11_forget_4 : decode cX11_forget 4 = .ok (.getfield 192, 3) := by decide +kernel
theorem dX11_forget_7 : decode cX11_forget 7 = .ok (.istore_n 1, 1) := by decide +kernel
theorem dX11_forget_8 : decode cX11_forget 8 = .ok (.aload_n 0, 1) := by decide +kernel
theorem dX11_forget_9 : decode cX11_forget 9 = .ok (.getfield 12, 3) := by decide +kernel
theorem dX11_forget_12 : decode cX11_forget 12 = .ok (.iconst 0, 1) := by decide +kernel
theorem dX11_forget_13 : decode cX11_forget 13 = .ok (.putfield 192, 3) := by decide +kernel
theorem dX11_forget_16 : decode cX11_forget 16 = .ok (.iload_n 1, 1) := by decide +kernel
theorem dX11_forget_17 : decode cX11_forget 17 = .ok (.ireturn, 1) := by decide +kernel
theorem dX11_lighting_0 : decode cX11_lighting 0 = .ok (.iload_n 1, 1) := by decide +kernel
theorem dX11_lighting_1 : decode cX11_lighting 1 = .ok (.invokestatic 161, 3) := by decide +kernel
theorem dX11_lighting_4 : decode cX11_lighting 4 = .ok (.ifCond .eq 13, 3) := by decide +kernel
theorem dX11_lighting_7 : decode cX11_lighting 7 = .ok (.iload_n 2, 1) := by decide +kernel
theorem dX11_lighting_8 : decode cX11_lighting 8 = .ok (.iconst 1, 1) := by decide +kernel
theorem dX11_lighting_9 : decode cX11_lighting 9 = .ok (.bipush 20, 2) := by decide +kernel
theorem dX11_lighting_11 : decode cX11_lighting 11 = .ok (.invokestatic 73, 3) := by decide +kernel
theorem dX11_lighting_14 : decode cX11_lighting 14 = .ok (.ifCond .ne 10, 3) := by decide +kernel
theorem dX11_lighting_17 : decode cX11_lighting 17 = .ok (.aload_n 0, 1) := by decide +kernel
theorem dX11_lighting_18 : decode cX11_lighting 18 = .ok (.bipush (-2), 2) := by decide +kernel
theorem dX11_lighting_20 : decode cX11_lighting 20 = .ok (.invokevirtual 77, 3) := by decide +kernel
theorem dX11_lighting_23 : decode cX11_lighting 23 = .ok (.ireturn, 1) := by decide +kernel
theorem dX11_lighting_24 : decode cX11_lighting 24 = .ok (.aload_n 0, 1) := by decide +kernel
theorem dX11_lighting_25 : decode cX11_lighting 25 = .ok (.getfield 45, 3) := by decide +kernel
theorem dX11_lighting_28 : decode cX11_lighting 28 = .ok (.iload_n 1, 1) := by decide +kernel
theorem dX11_lighting_29 : decode cX11_lighting 29 = .ok (.iload_n 2, 1) := by decide +kernel
theorem dX11_lighting_30 : decode cX11_lighting 30 = .ok (.invokevirtual 198, 3) := by decide +kernel
theorem dX11_lighting_33 : decode cX11_lighting 33 = .ok (.aload_n 0, 1) := by decide +kernel
theorem dX11_lighting_34 : decode cX11_lighting 34 = .ok (.getfield 45, 3) := by decide +kernel
theorem dX11_lighting_37 : decode cX11_lighting 37 = .ok (.invokevirtual 201, 3) := by decide +kernel
theorem dX11_lighting_40 : decode cX11_lighting 40 = .ok (.ireturn, 1) := by decide +kernel
theorem dX11_tallow_0 : decode cX11_tallow 0 = .ok (.iload_n 1, 1) := by decide +kernel
theorem dX11_tallow_1 : decode cX11_tallow 1 = .ok (.invokestatic 161, 3) := by decide +kernel
theorem dX11_tallow_4 : decode cX11_tallow 4 = .ok (.ifCond .eq 13, 3) := by decide +kernel
theorem dX11_tallow_7 : decode cX11_tallow 7 = .ok (.iload_n 2, 1) := by decide +kernel
theorem dX11_tallow_8 : decode cX11_tallow 8 = .ok (.iconst 1, 1) := by decide +kernel
theorem dX11_tallow_9 : decode cX11_tallow 9 = .ok (.bipush 20, 2) := by decide +kernel
theorem dX11_tallow_11 : decode cX11_tallow 11 = .ok (.invokestatic 73, 3) := by decide +kernel
theorem dX11_tallow_14 : decode cX11_tallow 14 = .ok (.ifCond .ne 10, 3) := by decide +kernel
theorem dX11_tallow_17 : decode cX11_tallow 17 = .ok (.aload_n 0, 1) := by decide +kernel
theorem dX11_tallow_18 : decode cX11_tallow 18 = .ok (.bipush (-2), 2) := by decide +kernel
theorem dX11_tallow_20 : decode cX11_tallow 20 = .ok (.invokevirtual 77, 3) := by decide +kernel
theorem dX11_tallow_23 : decode cX11_tallow 23 = .ok (.ireturn, 1) := by decide +kernel
theorem dX11_tallow_24 : decode cX11_tallow 24 = .ok (.aload_n 0, 1) := by decide +kernel
theorem dX11_tallow_25 : decode cX11_tallow 25 = .ok (.getfield 45, 3) := by decide +kernel
theorem dX11_tallow_28 : decode cX11_tallow 28 = .ok (.iload_n 1, 1) := by decide +kernel
theorem dX11_tallow_29 : decode cX11_tallow 29 = .ok (.iload_n 2, 1) := by decide +kernel
theorem dX11_tallow_30 : decode cX11_tallow 30 = .ok (.invokevirtual 198, 3) := by decide +kernel
theorem dX11_tallow_33 : decode cX11_tallow 33 = .ok (.aload_n 0, 1) := by decide +kernel
theorem dX11_tallow_34 : decode cX11_tallow 34 = .ok (.getfield 45, 3) := by decide +kernel
theorem dX11_tallow_37 : decode cX11_tallow 37 = .ok (.invokevirtual 204, 3) := by decide +kernel
theorem dX11_tallow_40 : decode cX11_tallow 40 = .ok (.ireturn, 1) := by decide +kernel
theorem dX11_put_0 : decode cX11_put 0 = .ok (.aload_n 0, 1) := by decide +kernel
theorem dX11_put_1 : decode cX11_put 1 = .ok (.getfield 12, 3) := by decide +kernel
theorem dX11_put_4 : decode cX11_put 4 = .ok (.iload_n 1, 1) := by decide +kernel
theorem dX11_put_5 : decode cX11_put 5 = .ok (.invokevirtual 106, 3) := by decide +kernel
theorem dX11_put_8 : decode cX11_put 8 = .ok (.ifCond .eq 10, 3) := by decide +kernel
theorem dX11_put_11 : decode cX11_put 11 = .ok (.iload_n 2, 1) := by decide +kernel
theorem dX11_put_12 : decode cX11_put 12 = .ok (.invokestatic 161, 3) := by decide +kernel
theorem dX11_put_15 : decode cX11_put 15 = .ok (.ifCond .ne 10, 3) := by decide +kernel
theorem dX11_put_18 : decode cX11_put 18 = .ok (.aload_n 0, 1) := by decide +kernel
theorem dX11_put_19 : decode cX11_put 19 = .ok (.bipush (-2), 2) := by decide +kernel
theorem dX11_put_21 : decode cX11_put 21 = .ok (.invokevirtual 77, 3) := by decide +kernel
theorem dX11_put_24 : decode cX11_put 24 = .ok (.ireturn, 1) := by decide +kernel
theorem dX11_put_25 : decode cX11_put 25 = .ok (.aload_n 0, 1) := by decide +kernel
theorem dX11_put_26 : decode cX11_put 26 = .ok (.getfield 36, 3) := by decide +kernel
theorem dX11_put_29 : decode cX11_put 29 = .ok (.iload_n 2, 1) := by decide +kernel
theorem dX11_put_30 : decode cX11_put 30 = .ok (.invokevirtual 183, 3) := by decide +kernel
theorem dX11_put_33 : decode cX11_put 33 = .ok (.aload_n 0, 1) := by decide +kernel
theorem dX11_put_34 : decode cX11_put 34 = .ok (.getfield 36, 3) := by decide +kernel
theorem dX11_put_37 : decode cX11_put 37 = .ok (.iload_n 1, 1) := by decide +kernel
theorem dX11_put_38 : decode cX11_put 38 = .ok (.iload_n 2, 1) := by decide +kernel
theorem dX11_put_39 : decode cX11_put 39 = .ok (.invokevirtual 207, 3) := by decide +kernel
theorem dX11_put_42 : decode cX11_put 42 = .ok (.ireturn, 1) := by decide +kernel
theorem dX11_thief_0 : decode cX11_thief 0 = .ok (.iload_n 1, 1) := by decide +kernel
theorem dX11_thief_1 : decode cX11_thief 1 = .ok (.invokestatic 91, 3) := by decide +kernel
theorem dX11_thief_4 : decode cX11_thief 4 = .ok (.ifCond .eq 38, 3) := by decide +kernel
theorem dX11_thief_7 : decode cX11_thief 7 = .ok (.iload_n 2, 1) := by decide +kernel
theorem dX11_thief_8 : decode cX11_thief 8 = .ok (.invokestatic 91, 3) := by decide +kernel
theorem dX11_thief_11 : decode cX11_thief 11 = .ok (.ifCond .eq 31, 3) := by decide +kernel
theorem dX11_thief_14 : decode cX11_thief 14 = .ok (.iload_n 3, 1) := by decide +kernel
theorem dX11_thief_15 : decode cX11_thief 15 = .ok (.invokestatic 161, 3) := by decide +kernel
theorem dX11_thief_18 : decode cX11_thief 18 = .ok (.ifCond .eq 24, 3) := by decide +kernel
theorem dX11_thief_21 : decode cX11_thief 21 = .ok (.iload 4, 2) := by decide +kernel
theorem dX11_thief_23 : decode cX11_thief 23 = .ok (.iconst 1, 1) := by decide +kernel
theorem dX11_thief_24 : decode cX11_thief 24 = .ok (.bipush 20, 2) := by decide +kernel
theorem dX11_thief_26 : decode cX11_thief 26 = .ok (.invokestatic 73, 3) := by decide +kernel
theorem dX11_thief_29 : decode cX11_thief 29 = .ok (.ifCond .eq 13, 3) := by decide +kernel
theorem dX11_thief_32 : decode cX11_thief 32 = .ok (.iload 5, 2) := by decide +kernel
theorem dX11_thief_34 : decode cX11_thief 34 = .ok (.iconst 0, 1) := by decide +kernel
theorem dX11_thief_35 : decode cX11_thief 35 = .ok (.iconst 1, 1) := by decide +kernel
theorem dX11_thief_36 : decode cX11_thief 36 = .ok (.invokestatic 73, 3) := by decide +kernel
theorem dX11_thief_39 : decode cX11_thief 39 = .ok (.ifCond .ne 10, 3) := by decide +kernel
theorem dX11_thief_42 : decode cX11_thief 42 = .ok (.aload_n 0, 1) := by decide +kernel
theorem dX11_thief_43 : decode cX11_thief 43 = .ok (.bipush (-2), 2) := by decide +kernel
theorem dX11_thief_45 : decode cX11_thief 45 = .ok (.invokevirtual 77, 3) := by decide +kernel
theorem dX11_thief_48 : decode cX11_thief 48 = .ok (.ireturn, 1) := by decide +kernel
theorem dX11_thief_49 : decode cX11_thief 49 = .ok (.aload_n 0, 1) := by decide +kernel
theorem dX11_thief_50 : decode cX11_thief 50 = .ok (.getfield 36, 3) := by decide +kernel
theorem dX11_thief_53 : decode cX11_thief 53 = .ok (.iload_n 3, 1) := by decide +kernel
theorem dX11_thief_54 : decode cX11_thief 54 = .ok (.invokevirtual 183, 3) := by decide +kernel
theorem dX11_thief_57 : decode cX11_thief 57 = .ok (.aload_n 0, 1) := by decide +kernel
theorem dX11_thief_58 : decode cX11_thief 58 = .ok (.getfield 52, 3) := by decide +kernel
theorem dX11_thief_61 : decode cX11_thief 61 = .ok (.iload_n 2, 1) := by decide +kernel
theorem dX11_thief_62 : decode cX11_thief 62 = .ok (.iload 4, 2) := by decide +kernel
theorem dX11_thief_64 : decode cX11_thief 64 = .ok (.invokevirtual 210, 3) := by decide +kernel
theorem dX11_thief_67 : decode cX11_thief 67 = .ok (.iload 5, 2) := by decide +kernel
theorem dX11_thief_69 : decode cX11_thief 69 = .ok (.ifCond .ne 14, 3) := by decide +kernel
theorem dX11_thief_72 : decode cX11_thief 72 = .ok (.aload_n 0, 1) := by decide +kernel
theorem dX11_thief_73 : decode cX11_thief 73 = .ok (.getfield 52, 3) := by decide +kernel
theorem dX11_thief_76 : decode cX11_thief 76 = .ok (.iload_n 1, 1) := by decide +kernel
theorem dX11_thief_77 : decode cX11_thief 77 = .ok (.invokevirtual 213, 3) := by decide +kernel
theorem dX11_thief_80 : decode cX11_thief 80 = .ok (.goto 11, 3) := by decide +kernel
theorem dX11_thief_83 : decode cX11_thief 83 = .ok (.aload_n 0, 1) := by decide +kernel
theorem dX11_thief_84 : decode cX11_thief 84 = .ok (.getfield 52, 3) := by decide +kernel
theorem dX11_thief_87 : decode cX11_thief 87 = .ok (.iload_n 1, 1) := by decide +kernel
theorem dX11_thief_88 : decode cX11_thief 88 = .ok (.invokevirtual 216, 3) := by decide +kernel
theorem dX11_thief_91 : decode cX11_thief 91 = .ok (.ireturn, 1) := by decide +kernel
theorem dX11_wedding_0 : decode cX11_wedding 0 = .ok (.iload_n 1, 1) := by decide +kernel
theorem dX11_wedding_1 : decode cX11_wedding 1 = .ok (.invokestatic 95, 3) := by decide +kernel
theorem dX11_wedding_4 : decode cX11_wedding 4 = .ok (.ifCond .eq 22, 3) := by decide +kernel
theorem dX11_wedding_7 : decode cX11_wedding 7 = .ok (.iload_n 2, 1) := by decide +kernel
theorem dX11_wedding_8 : decode cX11_wedding 8 = .ok (.invokestatic 95, 3) := by decide +kernel
theorem dX11_wedding_11 : decode cX11_wedding 11 = .ok (.ifCond .eq 15, 3) := by decide +kernel
theorem dX11_wedding_14 : decode cX11_wedding 14 = .ok (.iload_n 1, 1) := by decide +kernel
theorem dX11_wedding_15 : decode cX11_wedding 15 = .ok (.iload_n 2, 1) := by decide +kernel
theorem dX11_wedding_16 : decode cX11_wedding 16 = .ok (.if_icmp .eq 10, 3) := by decide +kernel
theorem dX11_wedding_19 : decode cX11_wedding 19 = .ok (.iload_n 3, 1) := by decide +kernel
theorem dX11_wedding_20 : decode cX11_wedding 20 = .ok (.invokestatic 161, 3) := by decide +kernel
theorem dX11_wedding_23 : decode cX11_wedding 23 = .ok (.ifCond .ne 10, 3) := by decide +kernel
theorem dX11_wedding_26 : decode cX11_wedding 26 = .ok (.aload_n 0, 1) := by decide +kernel
theorem dX11_wedding_27 : decode cX11_wedding 27 = .ok (.bipush (-100), 2) := by decide +kernel
theorem dX11_wedding_29 : decode cX11_wedding 29 = .ok (.invokevirtual 77, 3) := by decide +kernel
theorem dX11_wedding_32 : decode cX11_wedding 32 = .ok (.ireturn, 1) := by decide +kernel
theorem dX11_wedding_33 : decode cX11_wedding 33 = .ok (.aload_n 0, 1) := by decide +kernel
theorem dX11_wedding_34 : decode cX11_wedding 34 = .ok (.getfield 36, 3) := by decide +kernel
theorem dX11_wedding_37 : decode cX11_wedding 37 = .ok (.iload_n 3, 1) := by decide +kernel
theorem dX11_wedding_38 : decode cX11_wedding 38 = .ok (.invokevirtual 183, 3) := by decide +kernel
theorem dX11_wedding_41 : decode cX11_wedding 41 = .ok (.aload_n 0, 1) := by decide +kernel
theorem dX11_wedding_42 : decode cX11_wedding 42 = .ok (.getfield 36, 3) := by decide +kernel
theorem dX11_wedding_45 : decode cX11_wedding 45 = .ok (.iload_n 1, 1) := by decide +kernel
theorem dX11_wedding_46 : decode cX11_wedding 46 = .ok (.iload_n 2, 1) := by decide +kernel
theorem dX11_wedding_47 : decode cX11_wedding 47 = .ok (.invokevirtual 219, 3) := by decide +kernel
theorem dX11_wedding_50 : decode cX11_wedding 50 = .ok (.ireturn, 1) := by decide +kernel
theorem dX11_spite_0 : decode cX11_spite 0 = .ok (.iload_n 1, 1) := by decide +kernel
theorem dX11_spite_1 : decode cX11_spite 1 = .ok (.invokestatic 95, 3) := by decide +kernel
theorem dX11_spite_4 : decode cX11_spite 4 = .ok (.ifCond .eq 33, 3) := by decide +kernel
theorem dX11_spite_7 : decode cX11_spite 7 = .ok (.iload_n 2, 1) := by decide +kernel
theorem dX11_spite_8 : decode cX11_spite 8 = .ok (.invokestatic 95, 3) := by decide +kernel
theorem dX11_spite_11 : decode cX11_spite 11 = .ok (.ifCond .eq 26, 3) := by decide +kernel
theorem dX11_spite_14 : decode cX11_spite 14 = .ok (.iload_n 1, 1) := by decide +kernel
theorem dX11_spite_15 : decode cX11_spite 15 = .ok (.iload_n 2, 1) := by decide +kernel
theorem dX11_spite_16 : decode cX11_spite 16 = .ok (.if_icmp .eq 21, 3) := by decide +kernel
theorem dX11_spite_19 : decode cX11_spite 19 = .ok (.iload_n 3, 1) := by decide +kernel
theorem dX11_spite_20 : decode cX11_spite 20 = .ok (.invokestatic 161, 3) := by decide +kernel
theorem dX11_spite_23 : decode cX11_spite 23 = .ok (.ifCond .eq 14, 3) := by decide +kernel
theorem dX11_spite_26 : decode cX11_spite 26 = .ok (.iload 4, 2) := by decide +kernel
theorem dX11_spite_28 : decode cX11_spite 28 = .ok (.iconst 0, 1) := by decide +kernel
theorem dX11_spite_29 : decode cX11_spite 29 = .ok (.bipush 99, 2) := by decide +kernel
theorem dX11_spite_31 : decode cX11_spite 31 = .ok (.invokestatic 73, 3) := by decide +kernel
theorem dX11_spite_34 : decode cX11_spite 34 = .ok (.ifCond .ne 10, 3) := by decide +kernel
theorem dX11_spite_37 : decode cX11_spite 37 = .ok (.aload_n 0, 1) := by decide +kernel
theorem dX11_spite_38 : decode cX11_spite 38 = .ok (.bipush (-2), 2) := by decide +kernel
theorem dX11_spite_40 : decode cX11_spite 40 = .ok (.invokevirtual 77, 3) := by decide +kernel
theorem dX11_spite_43 : decode cX11_spite 43 = .ok (.ireturn, 1) := by decide +kernel
theorem dX11_spite_44 : decode cX11_spite 44 = .ok (.aload_n 0, 1) := by decide +kernel
theorem dX11_spite_45 : decode cX11_spite 45 = .ok (.getfield 36, 3) := by decide +kernel
theorem dX11_spite_48 : decode cX11_spite 48 = .ok (.iload_n 3, 1) := by decide +kernel
theorem dX11_spite_49 : decode cX11_spite 49 = .ok (.invokevirtual 183, 3) := by decide +kernel
theorem dX11_spite_52 : decode cX11_spite 52 = .ok (.aload_n 0, 1) := by decide +kernel
theorem dX11_spite_53 : decode cX11_spite 53 = .ok (.getfield 36, 3) := by decide +kernel
theorem dX11_spite_56 : decode cX11_spite 56 = .ok (.iload_n 1, 1) := by decide +kernel
theorem dX11_spite_57 : decode cX11_spite 57 = .ok (.iload_n 2, 1) := by decide +kernel
theorem dX11_spite_58 : decode cX11_spite 58 = .ok (.iload 4, 2) := by decide +kernel
theorem dX11_spite_60 : decode cX11_spite 60 = .ok (.invokevirtual 222, 3) := by decide +kernel
theorem dX11_spite_63 : decode cX11_spite 63 = .ok (.ireturn, 1) := by decide +kernel
theorem dX11_reading_0 : decode cX11_reading 0 = .ok (.iload_n 1, 1) := by decide +kernel
theorem dX11_reading_1 : decode cX11_reading 1 = .ok (.invokestatic 91, 3) := by decide +kernel
theorem dX11_reading_4 : decode cX11_reading 4 = .ok (.ifCond .eq 20, 3) := by decide +kernel
theorem dX11_reading_7 : decode cX11_reading 7 = .ok (.iload_n 2, 1) := by decide +kernel
theorem dX11_reading_8 : decode cX11_reading 8 = .ok (.invokestatic 161, 3) := by decide +kernel
theorem dX11_reading_11 : decode cX11_reading 11 = .ok (.ifCond .eq 13, 3) := by decide +kernel
theorem dX11_reading_14 : decode cX11_reading 14 = .ok (.iload_n 3, 1) := by decide +kernel
theorem dX11_reading_15 : decode cX11_reading 15 = .ok (.iconst 0, 1) := by decide +kernel
theorem dX11_reading_16 : decode cX11_reading 16 = .ok (.bipush 23, 2) := by decide +kernel
theorem dX11_reading_18 : decode cX11_reading 18 = .ok (.invokestatic 73, 3) := by decide +kernel
theorem dX11_reading_21 : decode cX11_reading 21 = .ok (.ifCond .ne 10, 3) := by decide +kernel
theorem dX11_reading_24 : decode cX11_reading 24 = .ok (.aload_n 0, 1) := by decide +kernel
theorem dX11_reading_25 : decode cX11_reading 25 = .ok (.bipush (-2), 2) := by decide +kernel
theorem dX11_reading_27 : decode cX11_reading 27 = .ok (.invokevirtual 77, 3) := by decide +kernel
theorem dX11_reading_30 : decode cX11_reading 30 = .ok (.ireturn, 1) := by decide +kernel
theorem dX11_reading_31 : decode cX11_reading 31 = .ok (.aload_n 0, 1) := by decide +kernel
theorem dX11_reading_32 : decode cX11_reading 32 = .ok (.getfield 12, 3) := by decide +kernel
theorem dX11_reading_35 : decode cX11_reading 35 = .ok (.getfield 225, 3) := by decide +kernel
theorem dX11_reading_38 : decode cX11_reading 38 = .ok (.bipush 6, 2) := by decide +kernel
theorem dX11_reading_40 : decode cX11_reading 40 = .ok (.if_icmp .lt 8, 3) := by decide +kernel
theorem dX11_reading_43 : decode cX11_reading 43 = .ok (.aload_n 0, 1) := by decide +kernel
theorem dX11_reading_44 : decode cX11_reading 44 = .ok (.invokevirtual 98, 3) := by decide +kernel
theorem dX11_reading_47 : decode cX11_reading 47 = .ok (.ireturn, 1) := by decide +kernel
theorem dX11_reading_48 : decode cX11_reading 48 = .ok (.aload_n 0, 1) := by decide +kernel
theorem dX11_reading_49 : decode cX11_reading 49 = .ok (.getfield 12, 3) := by decide +kernel
theorem dX11_reading_52 : decode cX11_reading 52 = .ok (.iload_n 1, 1) := by decide +kernel
theorem dX11_reading_53 : decode cX11_reading 53 = .ok (.iload_n 2, 1) := by decide +kernel
theorem dX11_reading_54 : decode cX11_reading 54 = .ok (.iload_n 3, 1) := by decide +kernel
theorem dX11_reading_55 : decode cX11_reading 55 = .ok (.invokevirtual 228, 3) := by decide +kernel
theorem dX11_reading_58 : decode cX11_reading 58 = .ok (.ireturn, 1) := by decide +kernel
theorem dX11_burnt_0 : decode cX11_burnt 0 = .ok (.aload_n 0, 1) := by decide +kernel
theorem dX11_burnt_1 : decode cX11_burnt 1 = .ok (.getfield 12, 3) := by decide +kernel
theorem dX11_burnt_4 : decode cX11_burnt 4 = .ok (.getfield 225, 3) := by decide +kernel
theorem dX11_burnt_7 : decode cX11_burnt 7 = .ok (.istore_n 1, 1) := by decide +kernel
theorem dX11_burnt_8 : decode cX11_burnt 8 = .ok (.aload_n 0, 1) := by decide +kernel
theorem dX11_burnt_9 : decode cX11_burnt 9 = .ok (.getfield 12, 3) := by decide +kernel
theorem dX11_burnt_12 : decode cX11_burnt 12 = .ok (.iconst 0, 1) := by decide +kernel
theorem dX11_burnt_13 : decode cX11_burnt 13 = .ok (.putfield 225, 3) := by decide +kernel
theorem dX11_burnt_16 : decode cX11_burnt 16 = .ok (.iload_n 1, 1) := by decide +kernel
theorem dX11_burnt_17 : decode cX11_burnt 17 = .ok (.ireturn, 1) := by decide +kernel
theorem dX11_burn_0 : decode cX11_burn 0 = .ok (.iload_n 1, 1) := by decide +kernel
theorem dX11_burn_1 : decode cX11_burn 1 = .ok (.iconst 0, 1) := by decide +kernel
theorem dX11_burn_2 : decode cX11_burn 2 = .ok (.iconst 1, 1) := by decide +kernel
theorem dX11_burn_3 : decode cX11_burn 3 = .ok (.invokestatic 73, 3) := by decide +kernel
theorem dX11_burn_6 : decode cX11_burn 6 = .ok (.ifCond .ne 10, 3) := by decide +kernel
theorem dX11_burn_9 : decode cX11_burn 9 = .ok (.aload_n 0, 1) := by decide +kernel
theorem dX11_burn_10 : decode cX11_burn 10 = .ok (.bipush (-10), 2) := by decide +kernel
theorem dX11_burn_12 : decode cX11_burn 12 = .ok (.invokevirtual 77, 3) := by decide +kernel
theorem dX11_burn_15 : decode cX11_burn 15 = .ok (.ireturn, 1) := by decide +kernel
theorem dX11_burn_16 : decode cX11_burn 16 = .ok (.aload_n 0, 1) := by decide +kernel
theorem dX11_burn_17 : decode cX11_burn 17 = .ok (.getfield 45, 3) := by decide +kernel
theorem dX11_burn_20 : decode cX11_burn 20 = .ok (.invokevirtual 231, 3) := by decide +kernel
theorem dX11_burn_23 : decode cX11_burn 23 = .ok (.iload_n 1, 1) := by decide +kernel
theorem dX11_burn_24 : decode cX11_burn 24 = .ok (.ifCond .ne 13, 3) := by decide +kernel
theorem dX11_burn_27 : decode cX11_burn 27 = .ok (.aload_n 0, 1) := by decide +kernel
theorem dX11_burn_28 : decode cX11_burn 28 = .ok (.getfield 45, 3) := by decide +kernel
theorem dX11_burn_31 : decode cX11_burn 31 = .ok (.getfield 234, 3) := by decide +kernel
theorem dX11_burn_34 : decode cX11_burn 34 = .ok (.goto 10, 3) := by decide +kernel
theorem dX11_burn_37 : decode cX11_burn 37 = .ok (.aload_n 0, 1) := by decide +kernel
theorem dX11_burn_38 : decode cX11_burn 38 = .ok (.getfield 45, 3) := by decide +kernel
theorem dX11_burn_41 : decode cX11_burn 41 = .ok (.invokevirtual 237, 3) := by decide +kernel
theorem dX11_burn_44 : decode cX11_burn 44 = .ok (.ireturn, 1) := by decide +kernel
theorem dX11_measure_0 : decode cX11_measure 0 = .ok (.iload_n 1, 1) := by decide +kernel
theorem dX11_measure_1 : decode cX11_measure 1 = .ok (.invokestatic 161, 3) := by decide +kernel
theorem dX11_measure_4 : decode cX11_measure 4 = .ok (.ifCond .ne 10, 3) := by decide +kernel
theorem dX11_measure_7 : decode cX11_measure 7 = .ok (.aload_n 0, 1) := by decide +kernel
theorem dX11_measure_8 : decode cX11_measure 8 = .ok (.bipush (-2), 2) := by decide +kernel
theorem dX11_measure_10 : decode cX11_measure 10 = .ok (.invokevirtual 77, 3) := by decide +kernel
theorem dX11_measure_13 : decode cX11_measure 13 = .ok (.ireturn, 1) := by decide +kernel
theorem dX11_measure_14 : decode cX11_measure 14 = .ok (.aload_n 0, 1) := by decide +kernel
theorem dX11_measure_15 : decode cX11_measure 15 = .ok (.getfield 36, 3) := by decide +kernel
theorem dX11_measure_18 : decode cX11_measure 18 = .ok (.iload_n 1, 1) := by decide +kernel
theorem dX11_measure_19 : decode cX11_measure 19 = .ok (.invokevirtual 183, 3) := by decide +kernel
theorem dX11_measure_22 : decode cX11_measure 22 = .ok (.aload_n 0, 1) := by decide +kernel
theorem dX11_measure_23 : decode cX11_measure 23 = .ok (.getfield 45, 3) := by decide +kernel
theorem dX11_measure_26 : decode cX11_measure 26 = .ok (.invokevirtual 231, 3) := by decide +kernel
theorem dX11_measure_29 : decode cX11_measure 29 = .ok (.aload_n 0, 1) := by decide +kernel
theorem dX11_measure_30 : decode cX11_measure 30 = .ok (.getfield 45, 3) := by decide +kernel
theorem dX11_measure_33 : decode cX11_measure 33 = .ok (.invokevirtual 240, 3) := by decide +kernel
theorem dX11_measure_36 : decode cX11_measure 36 = .ok (.ireturn, 1) := by decide +kernel
theorem dX11_draught_0 : decode cX11_draught 0 = .ok (.iload_n 1, 1) := by decide +kernel
theorem dX11_draught_1 : decode cX11_draught 1 = .ok (.invokestatic 91, 3) := by decide +kernel
theorem dX11_draught_4 : decode cX11_draught 4 = .ok (.ifCond .eq 31, 3) := by decide +kernel
theorem dX11_draught_7 : decode cX11_draught 7 = .ok (.iload_n 2, 1) := by decide +kernel
theorem dX11_draught_8 : decode cX11_draught 8 = .ok (.invokestatic 161, 3) := by decide +kernel
theorem dX11_draught_11 : decode cX11_draught 11 = .ok (.ifCond .eq 24, 3) := by decide +kernel
theorem dX11_draught_14 : decode cX11_draught 14 = .ok (.iload_n 3, 1) := by decide +kernel
theorem dX11_draught_15 : decode cX11_draught 15 = .ok (.iconst 0, 1) := by decide +kernel
theorem dX11_draught_16 : decode cX11_draught 16 = .ok (.bipush 23, 2) := by decide +kernel
theorem dX11_draught_18 : decode cX11_draught 18 = .ok (.invokestatic 73, 3) := by decide +kernel
theorem dX11_draught_21 : decode cX11_draught 21 = .ok (.ifCond .eq 14, 3) := by decide +kernel
theorem dX11_draught_24 : decode cX11_draught 24 = .ok (.iload 4, 2) := by decide +kernel
theorem dX11_draught_26 : decode cX11_draught 26 = .ok (.iconst 0, 1) := by decide +kernel
theorem dX11_draught_27 : decode cX11_draught 27 = .ok (.bipush 10, 2) := by decide +kernel
theorem dX11_draught_29 : decode cX11_draught 29 = .ok (.invokestatic 73, 3) := by decide +kernel
theorem dX11_draught_32 : decode cX11_draught 32 = .ok (.ifCond .ne 10, 3) := by decide +kernel
theorem dX11_draught_35 : decode cX11_draught 35 = .ok (.aload_n 0, 1) := by decide +kernel
theorem dX11_draught_36 : decode cX11_draught 36 = .ok (.bipush (-2), 2) := by decide +kernel
theorem dX11_draught_38 : decode cX11_draught 38 = .ok (.invokevirtual 77, 3) := by decide +kernel
theorem dX11_draught_41 : decode cX11_draught 41 = .ok (.ireturn, 1) := by decide +kernel
theorem dX11_draught_42 : decode cX11_draught 42 = .ok (.iload_n 3, 1) := by decide +kernel
theorem dX11_draught_43 : decode cX11_draught 43 = .ok (.ifCond .ne 11, 3) := by decide +kernel
theorem dX11_draught_46 : decode cX11_draught 46 = .ok (.aload_n 0, 1) := by decide +kernel
theorem dX11_draught_47 : decode cX11_draught 47 = .ok (.lconst 1, 1) := by decide +kernel
theorem dX11_draught_48 : decode cX11_draught 48 = .ok (.lconst 1, 1) := by decide +kernel
theorem dX11_draught_49 : decode cX11_draught 49 = .ok (.invokevirtual 243, 3) := by decide +kernel
theorem dX11_draught_52 : decode cX11_draught 52 = .ok (.iconst 1, 1) := by decide +kernel
theorem dX11_draught_53 : decode cX11_draught 53 = .ok (.ireturn, 1) := by decide +kernel
theorem dX11_draught_54 : decode cX11_draught 54 = .ok (.aload_n 0, 1) := by decide +kernel
theorem dX11_draught_55 : decode cX11_draught 55 = .ok (.getfield 36, 3) := by decide +kernel
theorem dX11_draught_58 : decode cX11_draught 58 = .ok (.iload_n 1, 1) := by decide +kernel
theorem dX11_draught_59 : decode cX11_draught 59 = .ok (.iload_n 2, 1) := by decide +kernel
theorem dX11_draught_60 : decode cX11_draught 60 = .ok (.iload_n 3, 1) := by decide +kernel
theorem dX11_draught_61 : decode cX11_draught 61 = .ok (.invokevirtual 189, 3) := by decide +kernel
theorem dX11_draught_64 : decode cX11_draught 64 = .ok (.aload_n 0, 1) := by decide +kernel
theorem dX11_draught_65 : decode cX11_draught 65 = .ok (.getfield 12, 3) := by decide +kernel
theorem dX11_draught_68 : decode cX11_draught 68 = .ok (.getfield 122, 3) := by decide +kernel
theorem dX11_draught_71 : decode cX11_draught 71 = .ok (.iand, 1) := by decide +kernel
theorem dX11_draught_72 : decode cX11_draught 72 = .ok (.istore 5, 2) := by decide +kernel
theorem dX11_draught_74 : decode cX11_draught 74 = .ok (.lconst 1, 1) := by decide +kernel
theorem dX11_draught_75 : decode cX11_draught 75 = .ok (.lstore 6, 2) := by decide +kernel
theorem dX11_draught_77 : decode cX11_draught 77 = .ok (.lconst 1, 1) := by decide +kernel
theorem dX11_draught_78 : decode cX11_draught 78 = .ok (.lstore 8, 2) := by decide +kernel
theorem dX11_draught_80 : decode cX11_draught 80 = .ok (.iload 5, 2) := by decide +kernel
theorem dX11_draught_82 : decode cX11_draught 82 = .ok (.invokestatic 247, 3) := by decide +kernel
theorem dX11_draught_85 : decode cX11_draught 85 = .ok (.istore 10, 2) := by decide +kernel
theorem dX11_draught_87 : decode cX11_draught 87 = .ok (.iconst 0, 1) := by decide +kernel
theorem dX11_draught_88 : decode cX11_draught 88 = .ok (.istore 11, 2) := by decide +kernel
theorem dX11_draught_90 : decode cX11_draught 90 = .ok (.iload 11, 2) := by decide +kernel
theorem dX11_draught_92 : decode cX11_draught 92 = .ok (.iload 10, 2) := by decide +kernel
theorem dX11_draught_94 : decode cX11_draught 94 = .ok (.if_icmp .ge 25, 3) := by decide +kernel
theorem dX11_draught_97 : decode cX11_draught 97 = .ok (.lload 6, 2) := by decide +kernel
theorem dX11_draught_99 : decode cX11_draught 99 = .ok (.ldc2_w 252, 3) := by decide +kernel
theorem dX11_draught_102 : decode cX11_draught 102 = .ok (.lmul, 1) := by decide +kernel
theorem dX11_draught_103 : decode cX11_draught 103 = .ok (.lstore 6, 2) := by decide +kernel
theorem dX11_draught_105 : decode cX11_draught 105 = .ok (.lload 8, 2) := by decide +kernel
theorem dX11_draught_107 : decode cX11_draught 107 = .ok (.iload 4, 2) := by decide +kernel
theorem dX11_draught_109 : decode cX11_draught 109 = .ok (.i2l, 1) := by decide +kernel
theorem dX11_draught_110 : decode cX11_draught 110 = .ok (.lmul, 1) := by decide +kernel
theorem dX11_draught_111 : decode cX11_draught 111 = .ok (.lstore 8, 2) := by decide +kernel
theorem dX11_draught_113 : decode cX11_draught 113 = .ok (.iinc 11 1, 3) := by decide +kernel
theorem dX11_draught_116 : decode cX11_draught 116 = .ok (.goto (-26), 3) := by decide +kernel
theorem dX11_draught_119 : decode cX11_draught 119 = .ok (.aload_n 0, 1) := by decide +kernel
theorem dX11_draught_120 : decode cX11_draught 120 = .ok (.lload 6, 2) := by decide +kernel
theorem dX11_draught_122 : decode cX11_draught 122 = .ok (.lload 8, 2) := by decide +kernel
theorem dX11_draught_124 : decode cX11_draught 124 = .ok (.lsub, 1) := by decide +kernel
theorem dX11_draught_125 : decode cX11_draught 125 = .ok (.lload 6, 2) := by decide +kernel
theorem dX11_draught_127 : decode cX11_draught 127 = .ok (.invokevirtual 243, 3) := by decide +kernel
theorem dX11_draught_130 : decode cX11_draught 130 = .ok (.iconst 1, 1) := by decide +kernel
theorem dX11_draught_131 : decode cX11_draught 131 = .ok (.ireturn, 1) := by decide +kernel
theorem dX11_nights_0 : decode cX11_nights 0 = .ok (.iload_n 1, 1) := by decide +kernel
theorem dX11_nights_1 : decode cX11_nights 1 = .ok (.invokestatic 95, 3) := by decide +kernel
theorem dX11_nights_4 : decode cX11_nights 4 = .ok (.ifCond .eq 34, 3) := by decide +kernel
theorem dX11_nights_7 : decode cX11_nights 7 = .ok (.iload_n 2, 1) := by decide +kernel
theorem dX11_nights_8 : decode cX11_nights 8 = .ok (.iconst 0, 1) := by decide +kernel
theorem dX11_nights_9 : decode cX11_nights 9 = .ok (.ldc 254, 2) := by decide +kernel
theorem dX11_nights_11 : decode cX11_nights 11 = .ok (.invokestatic 73, 3) := by decide +kernel
theorem dX11_nights_14 : decode cX11_nights 14 = .ok (.ifCond .eq 24, 3) := by decide +kernel
theorem dX11_nights_17 : decode cX11_nights 17 = .ok (.iload_n 3, 1) := by decide +kernel
theorem dX11_nights_18 : decode cX11_nights 18 = .ok (.iconst 0, 1) := by decide +kernel
theorem dX11_nights_19 : decode cX11_nights 19 = .ok (.bipush 30, 2) := by decide +kernel
theorem dX11_nights_21 : decode cX11_nights 21 = .ok (.invokestatic 73, 3) := by decide +kernel
theorem dX11_nights_24 : decode cX11_nights 24 = .ok (.ifCond .eq 14, 3) := by decide +kernel
theorem dX11_nights_27 : decode cX11_nights 27 = .ok (.iload 4, 2) := by decide +kernel
theorem dX11_nights_29 : decode cX11_nights 29 = .ok (.iconst 0, 1) := by decide +kernel
theorem dX11_nights_30 : decode cX11_nights 30 = .ok (.bipush 100, 2) := by decide +kernel
theorem dX11_nights_32 : decode cX11_nights 32 = .ok (.invokestatic 73, 3) := by decide +kernel
theorem dX11_nights_35 : decode cX11_nights 35 = .ok (.ifCond .ne 10, 3) := by decide +kernel
theorem dX11_nights_38 : decode cX11_nights 38 = .ok (.aload_n 0, 1) := by decide +kernel
theorem dX11_nights_39 : decode cX11_nights 39 = .ok (.bipush (-2), 2) := by decide +kernel
theorem dX11_nights_41 : decode cX11_nights 41 = .ok (.invokevirtual 77, 3) := by decide +kernel
theorem dX11_nights_44 : decode cX11_nights 44 = .ok (.ireturn, 1) := by decide +kernel
theorem dX11_nights_45 : decode cX11_nights 45 = .ok (.aload_n 0, 1) := by decide +kernel
theorem dX11_nights_46 : decode cX11_nights 46 = .ok (.getfield 36, 3) := by decide +kernel
theorem dX11_nights_49 : decode cX11_nights 49 = .ok (.iconst 0, 1) := by decide +kernel
theorem dX11_nights_50 : decode cX11_nights 50 = .ok (.invokevirtual 183, 3) := by decide +kernel
theorem dX11_nights_53 : decode cX11_nights 53 = .ok (.aload_n 0, 1) := by decide +kernel
theorem dX11_nights_54 : decode cX11_nights 54 = .ok (.getfield 36, 3) := by decide +kernel
theorem dX11_nights_57 : decode cX11_nights 57 = .ok (.iload_n 1, 1) := by decide +kernel
theorem dX11_nights_58 : decode cX11_nights 58 = .ok (.iload_n 2, 1) := by decide +kernel
theorem dX11_nights_59 : decode cX11_nights 59 = .ok (.iload_n 3, 1) := by decide +kernel
theorem dX11_nights_60 : decode cX11_nights 60 = .ok (.iload 4, 2) := by decide +kernel
theorem dX11_nights_62 : decode cX11_nights 62 = .ok (.invokevirtual 255, 3) := by decide +kernel
theorem dX11_nights_65 : decode cX11_nights 65 = .ok (.ireturn, 1) := by decide +kernel
theorem dX11_part_0 : decode cX11_part 0 = .ok (.iload_n 1, 1) := by decide +kernel
theorem dX11_part_1 : decode cX11_part 1 = .ok (.iconst 0, 1) := by decide +kernel
theorem dX11_part_2 : decode cX11_part 2 = .ok (.iconst 1, 1) := by decide +kernel
theorem dX11_part_3 : decode cX11_part 3 = .ok (.invokestatic 73, 3) := by decide +kernel
theorem dX11_part_6 : decode cX11_part 6 = .ok (.ifCond .ne 11, 3) := by decide +kernel
theorem dX11_part_9 : decode cX11_part 9 = .ok (.aload_n 0, 1) := by decide +kernel
theorem dX11_part_10 : decode cX11_part 10 = .ok (.bipush (-2), 2) := by decide +kernel
theorem dX11_part_12 : decode cX11_part 12 = .ok (.invokevirtual 77, 3) := by decide +kernel
theorem dX11_part_15 : decode cX11_part 15 = .ok (.i2l, 1) := by decide +kernel
theorem dX11_part_16 : decode cX11_part 16 = .ok (.lreturn, 1) := by decide +kernel
theorem dX11_part_17 : decode cX11_part 17 = .ok (.iload_n 1, 1) := by decide +kernel
theorem dX11_part_18 : decode cX11_part 18 = .ok (.ifCond .ne 10, 3) := by decide +kernel
theorem dX11_part_21 : decode cX11_part 21 = .ok (.aload_n 0, 1) := by decide +kernel
theorem dX11_part_22 : decode cX11_part 22 = .ok (.getfield 56, 3) := by decide +kernel
theorem dX11_part_25 : decode cX11_part 25 = .ok (.goto 7, 3) := by decide +kernel
theorem dX11_part_28 : decode cX11_part 28 = .ok (.aload_n 0, 1) := by decide +kernel
theorem dX11_part_29 : decode cX11_part 29 = .ok (.getfield 60, 3) := by decide +kernel
theorem dX11_part_32 : decode cX11_part 32 = .ok (.lreturn, 1) := by decide +kernel
theorem dX11_image_0 : decode cX11_image 0 = .ok (.iload_n 1, 1) := by decide +kernel
theorem dX11_image_1 : decode cX11_image 1 = .ok (.iconst 0, 1) := by decide +kernel
theorem dX11_image_2 : decode cX11_image 2 = .ok (.iconst 1, 1) := by decide +kernel
theorem dX11_image_3 : decode cX11_image 3 = .ok (.invokestatic 73, 3) := by decide +kernel
theorem dX11_image_6 : decode cX11_image 6 = .ok (.ifCond .ne 10, 3) := by decide +kernel
theorem dX11_image_9 : decode cX11_image 9 = .ok (.aload_n 0, 1) := by decide +kernel
theorem dX11_image_10 : decode cX11_image 10 = .ok (.bipush (-2), 2) := by decide +kernel
theorem dX11_image_12 : decode cX11_image 12 = .ok (.invokevirtual 77, 3) := by decide +kernel
theorem dX11_image_15 : decode cX11_image 15 = .ok (.ireturn, 1) := by decide +kernel
theorem dX11_image_16 : decode cX11_image 16 = .ok (.aload_n 0, 1) := by decide +kernel
theorem dX11_image_17 : decode cX11_image 17 = .ok (.getfield 16, 3) := by decide +kernel
theorem dX11_image_20 : decode cX11_image 20 = .ok (.iload_n 1, 1) := by decide +kernel
theorem dX11_image_21 : decode cX11_image 21 = .ok (.aaload, 1) := by decide +kernel
theorem dX11_image_22 : decode cX11_image 22 = .ok (.aload_n 0, 1) := by decide +kernel
theorem dX11_image_23 : decode cX11_image 23 = .ok (.getfield 12, 3) := by decide +kernel
theorem dX11_image_26 : decode cX11_image 26 = .ok (.invokevirtual 143, 3) := by decide +kernel
theorem dX11_image_29 : decode cX11_image 29 = .ok (.aload_n 0, 1) := by decide +kernel
theorem dX11_image_30 : decode cX11_image 30 = .ok (.getfield 20, 3) := by decide +kernel
theorem dX11_image_33 : decode cX11_image 33 = .ok (.iload_n 1, 1) := by decide +kernel
theorem dX11_image_34 : decode cX11_image 34 = .ok (.iconst 1, 1) := by decide +kernel
theorem dX11_image_35 : decode cX11_image 35 = .ok (.bastore, 1) := by decide +kernel
theorem dX11_image_36 : decode cX11_image 36 = .ok (.iconst 1, 1) := by decide +kernel
theorem dX11_image_37 : decode cX11_image 37 = .ok (.ireturn, 1) := by decide +kernel
theorem dX11_from_0 : decode cX11_from 0 = .ok (.iload_n 1, 1) := by decide +kernel
theorem dX11_from_1 : decode cX11_from 1 = .ok (.iconst 0, 1) := by decide +kernel
theorem dX11_from_2 : decode cX11_from 2 = .ok (.iconst 1, 1) := by decide +kernel
theorem dX11_from_3 : decode cX11_from 3 = .ok (.invokestatic 73, 3) := by decide +kernel
theorem dX11_from_6 : decode cX11_from 6 = .ok (.ifCond .ne 10, 3) := by decide +kernel
theorem dX11_from_9 : decode cX11_from 9 = .ok (.aload_n 0, 1) := by decide +kernel
theorem dX11_from_10 : decode cX11_from 10 = .ok (.bipush (-2), 2) := by decide +kernel
theorem dX11_from_12 : decode cX11_from 12 = .ok (.invokevirtual 77, 3) := by decide +kernel
theorem dX11_from_15 : decode cX11_from 15 = .ok (.ireturn, 1) := by decide +kernel
theorem dX11_from_16 : decode cX11_from 16 = .ok (.aload_n 0, 1) := by decide +kernel
theorem dX11_from_17 : decode cX11_from 17 = .ok (.getfield 20, 3) := by decide +kernel
theorem dX11_from_20 : decode cX11_from 20 = .ok (.iload_n 1, 1) := by decide +kernel
theorem dX11_from_21 : decode cX11_from 21 = .ok (.baload, 1) := by decide +kernel
theorem dX11_from_22 : decode cX11_from 22 = .ok (.ifCond .ne 8, 3) := by decide +kernel
theorem dX11_from_25 : decode cX11_from 25 = .ok (.aload_n 0, 1) := by decide +kernel
theorem dX11_from_26 : decode cX11_from 26 = .ok (.invokevirtual 119, 3) := by decide +kernel
theorem dX11_from_29 : decode cX11_from 29 = .ok (.ireturn, 1) := by decide +kernel
theorem dX11_from_30 : decode cX11_from 30 = .ok (.aload_n 0, 1) := by decide +kernel
theorem dX11_from_31 : decode cX11_from 31 = .ok (.getfield 12, 3) := by decide +kernel
theorem dX11_from_34 : decode cX11_from 34 = .ok (.aload_n 0, 1) := by decide +kernel
theorem dX11_from_35 : decode cX11_from 35 = .ok (.getfield 16, 3) := by decide +kernel
theorem dX11_from_38 : decode cX11_from 38 = .ok (.iload_n 1, 1) := by decide +kernel
theorem dX11_from_39 : decode cX11_from 39 = .ok (.aaload, 1) := by decide +kernel
theorem dX11_from_40 : decode cX11_from 40 = .ok (.invokevirtual 143, 3) := by decide +kernel
theorem dX11_from_43 : decode cX11_from 43 = .ok (.iconst 1, 1) := by decide +kernel
theorem dX11_from_44 : decode cX11_from 44 = .ok (.ireturn, 1) := by decide +kernel
theorem dX11_status_0 : decode cX11_status 0 = .ok (.iload_n 1, 1) := by decide +kernel
theorem dX11_status_1 : decode cX11_status 1 = .ok (.tableswitch 42 0 2 #[27, 32, 37], 27) := by decide +kernel
theorem dX11_status_28 : decode cX11_status 28 = .ok (.aload_n 0, 1) := by decide +kernel
theorem dX11_status_29 : decode cX11_status 29 = .ok (.getfield 63, 3) := by decide +kernel
theorem dX11_status_32 : decode cX11_status 32 = .ok (.ireturn, 1) := by decide +kernel
theorem dX11_status_33 : decode cX11_status 33 = .ok (.aload_n 0, 1) := by decide +kernel
theorem dX11_status_34 : decode cX11_status 34 = .ok (.getfield 67, 3) := by decide +kernel
theorem dX11_status_37 : decode cX11_status 37 = .ok (.ireturn, 1) := by decide +kernel
theorem dX11_status_38 : decode cX11_status 38 = .ok (.aload_n 0, 1) := by decide +kernel
theorem dX11_status_39 : decode cX11_status 39 = .ok (.getfield 70, 3) := by decide +kernel
theorem dX11_status_42 : decode cX11_status 42 = .ok (.ireturn, 1) := by decide +kernel
theorem dX11_status_43 : decode cX11_status 43 = .ok (.aload_n 0, 1) := by decide +kernel
theorem dX11_status_44 : decode cX11_status 44 = .ok (.iconst (-1), 1) := by decide +kernel
theorem dX11_status_45 : decode cX11_status 45 = .ok (.invokevirtual 77, 3) := by decide +kernel
theorem dX11_status_48 : decode cX11_status 48 = .ok (.ireturn, 1) := by decide +kernel
theorem dX11_count_0 : decode cX11_count 0 = .ok (.iload_n 1, 1) := by decide +kernel
theorem dX11_count_1 : decode cX11_count 1 = .ok (.iconst 0, 1) := by decide +kernel
theorem dX11_count_2 : decode cX11_count 2 = .ok (.bipush 6, 2) := by decide +kernel
theorem dX11_count_4 : decode cX11_count 4 = .ok (.invokestatic 73, 3) := by decide +kernel
theorem dX11_count_7 : decode cX11_count 7 = .ok (.ifCond .eq 11, 3) := by decide +kernel
theorem dX11_count_10 : decode cX11_count 10 = .ok (.aload_n 0, 1) := by decide +kernel
theorem dX11_count_11 : decode cX11_count 11 = .ok (.iload_n 1, 1) := by decide +kernel
theorem dX11_count_12 : decode cX11_count 12 = .ok (.invokevirtual 259, 3) := by decide +kernel
theorem dX11_count_15 : decode cX11_count 15 = .ok (.goto 9, 3) := by decide +kernel
theorem dX11_count_18 : decode cX11_count 18 = .ok (.aload_n 0, 1) := by decide +kernel
theorem dX11_count_19 : decode cX11_count 19 = .ok (.bipush (-2), 2) := by decide +kernel
theorem dX11_count_21 : decode cX11_count 21 = .ok (.invokevirtual 77, 3) := by decide +kernel
theorem dX11_count_24 : decode cX11_count 24 = .ok (.ireturn, 1) := by decide +kernel
theorem dX11_digest_0 : decode cX11_digest 0 = .ok (.ldc2_w 262, 3) := by decide +kernel
theorem dX11_digest_3 : decode cX11_digest 3 = .ok (.lstore_n 1, 1) := by decide +kernel
theorem dX11_digest_4 : decode cX11_digest 4 = .ok (.iconst 0, 1) := by decide +kernel
theorem dX11_digest_5 : decode cX11_digest 5 = .ok (.istore_n 3, 1) := by decide +kernel
theorem dX11_digest_6 : decode cX11_digest 6 = .ok (.iload_n 3, 1) := by decide +kernel
theorem dX11_digest_7 : decode cX11_digest 7 = .ok (.bipush 6, 2) := by decide +kernel
theorem dX11_digest_9 : decode cX11_digest 9 = .ok (.if_icmp .gt 22, 3) := by decide +kernel
theorem dX11_digest_12 : decode cX11_digest 12 = .ok (.ldc2_w 264, 3) := by decide +kernel
theorem dX11_digest_15 : decode cX11_digest 15 = .ok (.lload_n 1, 1) := by decide +kernel
theorem dX11_digest_16 : decode cX11_digest 16 = .ok (.lmul, 1) := by decide +kernel
theorem dX11_digest_17 : decode cX11_digest 17 = .ok (.aload_n 0, 1) := by decide +kernel
theorem dX11_digest_18 : decode cX11_digest 18 = .ok (.iload_n 3, 1) := by decide +kernel
theorem dX11_digest_19 : decode cX11_digest 19 = .ok (.invokevirtual 259, 3) := by decide +kernel
theorem dX11_digest_22 : decode cX11_digest 22 = .ok (.i2l, 1) := by decide +kernel
theorem dX11_digest_23 : decode cX11_digest 23 = .ok (.ladd, 1) := by decide +kernel
theorem dX11_digest_24 : decode cX11_digest 24 = .ok (.lstore_n 1, 1) := by decide +kernel
theorem dX11_digest_25 : decode cX11_digest 25 = .ok (.iinc 3 1, 3) := by decide +kernel
theorem dX11_digest_28 : decode cX11_digest 28 = .ok (.goto (-22), 3) := by decide +kernel
theorem dX11_digest_31 : decode cX11_digest 31 = .ok (.aload_n 0, 1) := by decide +kernel
theorem dX11_digest_32 : decode cX11_digest 32 = .ok (.getfield 12, 3) := by decide +kernel
theorem dX11_digest_35 : decode cX11_digest 35 = .ok (.lload_n 1, 1) := by decide +kernel
theorem dX11_digest_36 : decode cX11_digest 36 = .ok (.invokevirtual 266, 3) := by decide +kernel
theorem dX11_digest_39 : decode cX11_digest 39 = .ok (.lstore_n 1, 1) := by decide +kernel
theorem dX11_digest_40 : decode cX11_digest 40 = .ok (.ldc2_w 264, 3) := by decide +kernel
theorem dX11_digest_43 : decode cX11_digest 43 = .ok (.lload_n 1, 1) := by decide +kernel
theorem dX11_digest_44 : decode cX11_digest 44 = .ok (.lmul, 1) := by decide +kernel
theorem dX11_digest_45 : decode cX11_digest 45 = .ok (.aload_n 0, 1) := by decide +kernel
theorem dX11_digest_46 : decode cX11_digest 46 = .ok (.getfield 56, 3) := by decide +kernel
theorem dX11_digest_49 : decode cX11_digest 49 = .ok (.ladd, 1) := by decide +kernel
theorem dX11_digest_50 : decode cX11_digest 50 = .ok (.lstore_n 1, 1) := by decide +kernel
theorem dX11_digest_51 : decode cX11_digest 51 = .ok (.ldc2_w 264, 3) := by decide +kernel
theorem dX11_digest_54 : decode cX11_digest 54 = .ok (.lload_n 1, 1) := by decide +kernel
theorem dX11_digest_55 : decode cX11_digest 55 = .ok (.lmul, 1) := by decide +kernel
theorem dX11_digest_56 : decode cX11_digest 56 = .ok (.aload_n 0, 1) := by decide +kernel
theorem dX11_digest_57 : decode cX11_digest 57 = .ok (.getfield 60, 3) := by decide +kernel
theorem dX11_digest_60 : decode cX11_digest 60 = .ok (.ladd, 1) := by decide +kernel
theorem dX11_digest_61 : decode cX11_digest 61 = .ok (.lreturn, 1) := by decide +kernel
theorem dX11_howMany_0 : decode cX11_howMany 0 = .ok (.iload_n 1, 1) := by decide +kernel
theorem dX11_howMany_1 : decode cX11_howMany 1 = .ok (.tableswitch 87 0 5 #[39, 47, 55, 63, 71, 79], 39) := by decide +kernel
theorem dX11_howMany_40 : decode cX11_howMany 40 = .ok (.aload_n 0, 1) := by decide +kernel
theorem dX11_howMany_41 : decode cX11_howMany 41 = .ok (.getfield 12, 3) := by decide +kernel
theorem dX11_howMany_44 : decode cX11_howMany 44 = .ok (.getfield 81, 3) := by decide +kernel
theorem dX11_howMany_47 : decode cX11_howMany 47 = .ok (.ireturn, 1) := by decide +kernel
theorem dX11_howMany_48 : decode cX11_howMany 48 = .ok (.aload_n 0, 1) := by decide +kernel
theorem dX11_howMany_49 : decode cX11_howMany 49 = .ok (.getfield 12, 3) := by decide +kernel
theorem dX11_howMany_52 : decode cX11_howMany 52 = .ok (.getfield 88, 3) := by decide +kernel
theorem dX11_howMany_55 : decode cX11_howMany 55 = .ok (.ireturn, 1) := by decide +kernel
theorem dX11_howMany_56 : decode cX11_howMany 56 = .ok (.aload_n 0, 1) := by decide +kernel
theorem dX11_howMany_57 : decode cX11_howMany 57 = .ok (.getfield 12, 3) := by decide +kernel
theorem dX11_howMany_60 : decode cX11_howMany 60 = .ok (.getfield 122, 3) := by decide +kernel
theorem dX11_howMany_63 : decode cX11_howMany 63 = .ok (.ireturn, 1) := by decide +kernel
theorem dX11_howMany_64 : decode cX11_howMany 64 = .ok (.aload_n 0, 1) := by decide +kernel
theorem dX11_howMany_65 : decode cX11_howMany 65 = .ok (.getfield 12, 3) := by decide +kernel
theorem dX11_howMany_68 : decode cX11_howMany 68 = .ok (.getfield 192, 3) := by decide +kernel
theorem dX11_howMany_71 : decode cX11_howMany 71 = .ok (.ireturn, 1) := by decide +kernel
theorem dX11_howMany_72 : decode cX11_howMany 72 = .ok (.aload_n 0, 1) := by decide +kernel
theorem dX11_howMany_73 : decode cX11_howMany 73 = .ok (.getfield 12, 3) := by decide +kernel
theorem dX11_howMany_76 : decode cX11_howMany 76 = .ok (.getfield 225, 3) := by decide +kernel
theorem dX11_howMany_79 : decode cX11_howMany 79 = .ok (.ireturn, 1) := by decide +kernel
theorem dX11_howMany_80 : decode cX11_howMany 80 = .ok (.aload_n 0, 1) := by decide +kernel
theorem dX11_howMany_81 : decode cX11_howMany 81 = .ok (.getfield 12, 3) := by decide +kernel
theorem dX11_howMany_84 : decode cX11_howMany 84 = .ok (.getfield 125, 3) := by decide +kernel
theorem dX11_howMany_87 : decode cX11_howMany 87 = .ok (.ireturn, 1) := by decide +kernel
theorem dX11_howMany_88 : decode cX11_howMany 88 = .ok (.aload_n 0, 1) := by decide +kernel
theorem dX11_howMany_89 : decode cX11_howMany 89 = .ok (.getfield 27, 3) := by decide +kernel
theorem dX11_howMany_92 : decode cX11_howMany 92 = .ok (.getfield 131, 3) := by decide +kernel
theorem dX11_howMany_95 : decode cX11_howMany 95 = .ok (.ireturn, 1) := by decide +kernel
theorem dX11_bad_0 : decode cX11_bad 0 = .ok (.aload_n 0, 1) := by decide +kernel
theorem dX11_bad_1 : decode cX11_bad 1 = .ok (.dup, 1) := by decide +kernel
theorem dX11_bad_2 : decode cX11_bad 2 = .ok (.getfield 63, 3) := by decide +kernel
theorem dX11_bad_5 : decode cX11_bad 5 = .ok (.iconst 1, 1) := by decide +kernel
theorem dX11_bad_6 : decode cX11_bad 6 = .ok (.iadd, 1) := by decide +kernel
theorem dX11_bad_7 : decode cX11_bad 7 = .ok (.putfield 63, 3) := by decide +kernel
theorem dX11_bad_10 : decode cX11_bad 10 = .ok (.iload_n 1, 1) := by decide +kernel
theorem dX11_bad_11 : decode cX11_bad 11 = .ok (.ireturn, 1) := by decide +kernel
theorem dX11_no_0 : decode cX11_no 0 = .ok (.aload_n 0, 1) := by decide +kernel
theorem dX11_no_1 : decode cX11_no 1 = .ok (.dup, 1) := by decide +kernel
theorem dX11_no_2 : decode cX11_no 2 = .ok (.getfield 67, 3) := by decide +kernel
theorem dX11_no_5 : decode cX11_no 5 = .ok (.iconst 1, 1) := by decide +kernel
theorem dX11_no_6 : decode cX11_no 6 = .ok (.iadd, 1) := by decide +kernel
theorem dX11_no_7 : decode cX11_no 7 = .ok (.putfield 67, 3) := by decide +kernel
theorem dX11_no_10 : decode cX11_no 10 = .ok (.bipush (-3), 2) := by decide +kernel
theorem dX11_no_12 : decode cX11_no 12 = .ok (.ireturn, 1) := by decide +kernel
theorem dX11_full_0 : decode cX11_full 0 = .ok (.aload_n 0, 1) := by decide +kernel
theorem dX11_full_1 : decode cX11_full 1 = .ok (.dup, 1) := by decide +kernel
theorem dX11_full_2 : decode cX11_full 2 = .ok (.getfield 70, 3) := by decide +kernel
theorem dX11_full_5 : decode cX11_full 5 = .ok (.iconst 1, 1) := by decide +kernel
theorem dX11_full_6 : decode cX11_full 6 = .ok (.iadd, 1) := by decide +kernel
theorem dX11_full_7 : decode cX11_full 7 = .ok (.putfield 70, 3) := by decide +kernel
theorem dX11_full_10 : decode cX11_full 10 = .ok (.bipush (-4), 2) := by decide +kernel
theorem dX11_full_12 : decode cX11_full 12 = .ok (.ireturn, 1) := by decide +kernel
theorem dX11_keepFraction_0 : decode cX11_keepFraction 0 = .ok (.lload_n 1, 1) := by decide +kernel
theorem dX11_keepFraction_1 : decode cX11_keepFraction 1 = .ok (.lload_n 3, 1) := by decide +kernel
theorem dX11_keepFraction_2 : decode cX11_keepFraction 2 = .ok (.invokestatic 270, 3) := by decide +kernel
theorem dX11_keepFraction_5 : decode cX11_keepFraction 5 = .ok (.lstore 5, 2) := by decide +kernel
theorem dX11_keepFraction_7 : decode cX11_keepFraction 7 = .ok (.aload_n 0, 1) := by decide +kernel
theorem dX11_keepFraction_8 : decode cX11_keepFraction 8 = .ok (.lload 5, 2) := by decide +kernel
theorem dX11_keepFraction_10 : decode cX11_keepFraction 10 = .ok (.lconst 0, 1) := by decide +kernel
theorem dX11_keepFraction_11 : decode cX11_keepFraction 11 = .ok (.lcmp, 1) := by decide +kernel
theorem dX11_keepFraction_12 : decode cX11_keepFraction 12 = .ok (.ifCond .le 10, 3) := by decide +kernel
theorem dX11_keepFraction_15 : decode cX11_keepFraction 15 = .ok (.lload_n 1, 1) := by decide +kernel
theorem dX11_keepFraction_16 : decode cX11_keepFraction 16 = .ok (.lload 5, 2) := by decide +kernel
theorem dX11_keepFraction_18 : decode cX11_keepFraction 18 = .ok (.ldiv, 1) := by decide +kernel
theorem dX11_keepFraction_19 : decode cX11_keepFraction 19 = .ok (.goto 4, 3) := by decide +kernel
theorem dX11_keepFraction_22 : decode cX11_keepFraction 22 = .ok (.lload_n 1, 1) := by decide +kernel
theorem dX11_keepFraction_23 : decode cX11_keepFraction 23 = .ok (.putfield 56, 3) := by decide +kernel
theorem dX11_keepFraction_26 : decode cX11_keepFraction 26 = .ok (.aload_n 0, 1) := by decide +kernel
theorem dX11_keepFraction_27 : decode cX11_keepFraction 27 = .ok (.lload 5, 2) := by decide +kernel
theorem dX11_keepFraction_29 : decode cX11_keepFraction 29 = .ok (.lconst 0, 1) := by decide +kernel
theorem dX11_keepFraction_30 : decode cX11_keepFraction 30 = .ok (.lcmp, 1) := by decide +kernel
theorem dX11_keepFraction_31 : decode cX11_keepFraction 31 = .ok (.ifCond .le 10, 3) := by decide +kernel
theorem dX11_keepFraction_34 : decode cX11_keepFraction 34 = .ok (.lload_n 3, 1) := by decide +kernel
theorem dX11_keepFraction_35 : decode cX11_keepFraction 35 = .ok (.lload 5, 2) := by decide +kernel
theorem dX11_keepFraction_37 : decode cX11_keepFraction 37 = .ok (.ldiv, 1) := by decide +kernel
theorem dX11_keepFraction_38 : decode cX11_keepFraction 38 = .ok (.goto 4, 3) := by decide +kernel
theorem dX11_keepFraction_41 : decode cX11_keepFraction 41 = .ok (.lload_n 3, 1) := by decide +kernel
theorem dX11_keepFraction_42 : decode cX11_keepFraction 42 = .ok (.putfield 60, 3) := by decide +kernel
theorem dX11_keepFraction_45 : decode cX11_keepFraction 45 = .ok (.return_, 1) := by decide +kernel
