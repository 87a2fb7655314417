theorem dL_cell_0 : decode cL_cell 0 = .ok (.iload_n 1, 1) := by decide +kernel
theorem dL_cell_1 : decode cL_cell 1 = .ok (.aload_n 0, 1) := by decide +kernel
theorem dL_cell_2 : decode cL_cell 2 = .ok (.arraylength, 1) := by decide +kernel
theorem dL_cell_3 : decode cL_cell 3 = .ok (.if_icmp .ge 9, 3) := by decide +kernel
theorem dL_cell_6 : decode cL_cell 6 = .ok (.aload_n 0, 1) := by decide +kernel
theorem dL_cell_7 : decode cL_cell 7 = .ok (.iload_n 1, 1) := by decide +kernel
theorem dL_cell_8 : decode cL_cell 8 = .ok (.iaload, 1) := by decide +kernel
theorem dL_cell_9 : decode cL_cell 9 = .ok (.goto 10, 3) := by decide +kernel
theorem dL_cell_12 : decode cL_cell 12 = .ok (.ldc 7, 2) := by decide +kernel
theorem dL_cell_14 : decode cL_cell 14 = .ok (.iload_n 1, 1) := by decide +kernel
theorem dL_cell_15 : decode cL_cell 15 = .ok (.imul, 1) := by decide +kernel
theorem dL_cell_16 : decode cL_cell 16 = .ok (.bipush 109, 2) := by decide +kernel
theorem dL_cell_18 : decode cL_cell 18 = .ok (.iadd, 1) := by decide +kernel
theorem dL_cell_19 : decode cL_cell 19 = .ok (.ldc 8, 2) := by decide +kernel
theorem dL_cell_21 : decode cL_cell 21 = .ok (.iand, 1) := by decide +kernel
theorem dL_cell_22 : decode cL_cell 22 = .ok (.ireturn, 1) := by decide +kernel
theorem dL_foldsBy_0 : decode cL_foldsBy 0 = .ok (.iconst 0, 1) := by decide +kernel
theorem dL_foldsBy_1 : decode cL_foldsBy 1 = .ok (.istore_n 3, 1) := by decide +kernel
theorem dL_foldsBy_2 : decode cL_foldsBy 2 = .ok (.iload_n 0, 1) := by decide +kernel
theorem dL_foldsBy_3 : decode cL_foldsBy 3 = .ok (.istore 4, 2) := by decide +kernel
theorem dL_foldsBy_5 : decode cL_foldsBy 5 = .ok (.iload_n 1, 1) := by decide +kernel
theorem dL_foldsBy_6 : decode cL_foldsBy 6 = .ok (.istore 5, 2) := by decide +kernel
theorem dL_foldsBy_8 : decode cL_foldsBy 8 = .ok (.iload_n 2, 1) := by decide +kernel
theorem dL_foldsBy_9 : decode cL_foldsBy 9 = .ok (.istore 6, 2) := by decide +kernel
theorem dL_foldsBy_11 : decode cL_foldsBy 11 = .ok (.iload 5, 2) := by decide +kernel
theorem dL_foldsBy_13 : decode cL_foldsBy 13 = .ok (.iload 6, 2) := by decide +kernel
theorem dL_foldsBy_15 : decode cL_foldsBy 15 = .ok (.iadd, 1) := by decide +kernel
theorem dL_foldsBy_16 : decode cL_foldsBy 16 = .ok (.ifCond .le 89, 3) := by decide +kernel
theorem dL_foldsBy_19 : decode cL_foldsBy 19 = .ok (.iload 5, 2) := by decide +kernel
theorem dL_foldsBy_21 : decode cL_foldsBy 21 = .ok (.ifCond .eq 15, 3) := by decide +kernel
theorem dL_foldsBy_24 : decode cL_foldsBy 24 = .ok (.iload 6, 2) := by decide +kernel
theorem dL_foldsBy_26 : decode cL_foldsBy 26 = .ok (.ifCond .le 14, 3) := by decide +kernel
theorem dL_foldsBy_29 : decode cL_foldsBy 29 = .ok (.iload 4, 2) := by decide +kernel
theorem dL_foldsBy_31 : decode cL_foldsBy 31 = .ok (.iconst 2, 1) := by decide +kernel
theorem dL_foldsBy_32 : decode cL_foldsBy 32 = .ok (.irem, 1) := by decide +kernel
theorem dL_foldsBy_33 : decode cL_foldsBy 33 = .ok (.ifCond .ne 7, 3) := by decide +kernel
theorem dL_foldsBy_36 : decode cL_foldsBy 36 = .ok (.iconst 1, 1) := by decide +kernel
theorem dL_foldsBy_37 : decode cL_foldsBy 37 = .ok (.goto 4, 3) := by decide +kernel
theorem dL_foldsBy_40 : decode cL_foldsBy 40 = .ok (.iconst 0, 1) := by decide +kernel
theorem dL_foldsBy_41 : decode cL_foldsBy 41 = .ok (.istore 7, 2) := by decide +kernel
theorem dL_foldsBy_43 : decode cL_foldsBy 43 = .ok (.bipush 10, 2) := by decide +kernel
theorem dL_foldsBy_45 : decode cL_foldsBy 45 = .ok (.iload_n 3, 1) := by decide +kernel
theorem dL_foldsBy_46 : decode cL_foldsBy 46 = .ok (.imul, 1) := by decide +kernel
theorem dL_foldsBy_47 : decode cL_foldsBy 47 = .ok (.iload 7, 2) := by decide +kernel
theorem dL_foldsBy_49 : decode cL_foldsBy 49 = .ok (.ifCond .eq 7, 3) := by decide +kernel
theorem dL_foldsBy_52 : decode cL_foldsBy 52 = .ok (.iconst 1, 1) := by decide +kernel
theorem dL_foldsBy_53 : decode cL_foldsBy 53 = .ok (.goto 4, 3) := by decide +kernel
theorem dL_foldsBy_56 : decode cL_foldsBy 56 = .ok (.iconst 3, 1) := by decide +kernel
theorem dL_foldsBy_57 : decode cL_foldsBy 57 = .ok (.iadd, 1) := by decide +kernel
theorem dL_foldsBy_58 : decode cL_foldsBy 58 = .ok (.iload 4, 2) := by decide +kernel
theorem dL_foldsBy_60 : decode cL_foldsBy 60 = .ok (.iconst 2, 1) := by decide +kernel
theorem dL_foldsBy_61 : decode cL_foldsBy 61 = .ok (.idiv, 1) := by decide +kernel
theorem dL_foldsBy_62 : decode cL_foldsBy 62 = .ok (.iconst 2, 1) := by decide +kernel
theorem dL_foldsBy_63 : decode cL_foldsBy 63 = .ok (.irem, 1) := by decide +kernel
theorem dL_foldsBy_64 : decode cL_foldsBy 64 = .ok (.iadd, 1) := by decide +kernel
theorem dL_foldsBy_65 : decode cL_foldsBy 65 = .ok (.istore_n 3, 1) := by decide +kernel
theorem dL_foldsBy_66 : decode cL_foldsBy 66 = .ok (.iload 4, 2) := by decide +kernel
theorem dL_foldsBy_68 : decode cL_foldsBy 68 = .ok (.iconst 4, 1) := by decide +kernel
theorem dL_foldsBy_69 : decode cL_foldsBy 69 = .ok (.idiv, 1) := by decide +kernel
theorem dL_foldsBy_70 : decode cL_foldsBy 70 = .ok (.istore 4, 2) := by decide +kernel
theorem dL_foldsBy_72 : decode cL_foldsBy 72 = .ok (.iload 5, 2) := by decide +kernel
theorem dL_foldsBy_74 : decode cL_foldsBy 74 = .ok (.iload 7, 2) := by decide +kernel
theorem dL_foldsBy_76 : decode cL_foldsBy 76 = .ok (.ifCond .eq 7, 3) := by decide +kernel
theorem dL_foldsBy_79 : decode cL_foldsBy 79 = .ok (.iconst 0, 1) := by decide +kernel
theorem dL_foldsBy_80 : decode cL_foldsBy 80 = .ok (.goto 4, 3) := by decide +kernel
theorem dL_foldsBy_83 : decode cL_foldsBy 83 = .ok (.iconst 1, 1) := by decide +kernel
theorem dL_foldsBy_84 : decode cL_foldsBy 84 = .ok (.isub, 1) := by decide +kernel
theorem dL_foldsBy_85 : decode cL_foldsBy 85 = .ok (.istore 5, 2) := by decide +kernel
theorem dL_foldsBy_87 : decode cL_foldsBy 87 = .ok (.iload 6, 2) := by decide +kernel
theorem dL_foldsBy_89 : decode cL_foldsBy 89 = .ok (.iload 7, 2) := by decide +kernel
theorem dL_foldsBy_91 : decode cL_foldsBy 91 = .ok (.ifCond .eq 7, 3) := by decide +kernel
theorem dL_foldsBy_94 : decode cL_foldsBy 94 = .ok (.iconst 1, 1) := by decide +kernel
theorem dL_foldsBy_95 : decode cL_foldsBy 95 = .ok (.goto 4, 3) := by decide +kernel
theorem dL_foldsBy_98 : decode cL_foldsBy 98 = .ok (.iconst 0, 1) := by decide +kernel
theorem dL_foldsBy_99 : decode cL_foldsBy 99 = .ok (.isub, 1) := by decide +kernel
theorem dL_foldsBy_100 : decode cL_foldsBy 100 = .ok (.istore 6, 2) := by decide +kernel
theorem dL_foldsBy_102 : decode cL_foldsBy 102 = .ok (.goto (-91), 3) := by decide +kernel
theorem dL_foldsBy_105 : decode cL_foldsBy 105 = .ok (.iload_n 3, 1) := by decide +kernel
theorem dL_foldsBy_106 : decode cL_foldsBy 106 = .ok (.ireturn, 1) := by decide +kernel
theorem dL_ones_0 : decode cL_ones 0 = .ok (.iconst 0, 1) := by decide +kernel
theorem dL_ones_1 : decode cL_ones 1 = .ok (.istore_n 1, 1) := by decide +kernel
theorem dL_ones_2 : decode cL_ones 2 = .ok (.iconst 0, 1) := by decide +kernel
theorem dL_ones_3 : decode cL_ones 3 = .ok (.istore_n 2, 1) := by decide +kernel
theorem dL_ones_4 : decode cL_ones 4 = .ok (.iload_n 2, 1) := by decide +kernel
theorem dL_ones_5 : decode cL_ones 5 = .ok (.iconst 4, 1) := by decide +kernel
theorem dL_ones_6 : decode cL_ones 6 = .ok (.if_icmp .ge 17, 3) := by decide +kernel
theorem dL_ones_9 : decode cL_ones 9 = .ok (.iload_n 1, 1) := by decide +kernel
theorem dL_ones_10 : decode cL_ones 10 = .ok (.iload_n 0, 1) := by decide +kernel
theorem dL_ones_11 : decode cL_ones 11 = .ok (.iload_n 2, 1) := by decide +kernel
theorem dL_ones_12 : decode cL_ones 12 = .ok (.ishr, 1) := by decide +kernel
theorem dL_ones_13 : decode cL_ones 13 = .ok (.iconst 1, 1) := by decide +kernel
theorem dL_ones_14 : decode cL_ones 14 = .ok (.iand, 1) := by decide +kernel
theorem dL_ones_15 : decode cL_ones 15 = .ok (.iadd, 1) := by decide +kernel
theorem dL_ones_16 : decode cL_ones 16 = .ok (.istore_n 1, 1) := by decide +kernel
theorem dL_ones_17 : decode cL_ones 17 = .ok (.iinc 2 1, 3) := by decide +kernel
theorem dL_ones_20 : decode cL_ones 20 = .ok (.goto (-16), 3) := by decide +kernel
theorem dL_ones_23 : decode cL_ones 23 = .ok (.iload_n 1, 1) := by decide +kernel
theorem dL_ones_24 : decode cL_ones 24 = .ok (.ireturn, 1) := by decide +kernel
theorem dL_folds_0 : decode cL_folds 0 = .ok (.iconst 1, 1) := by decide +kernel
theorem dL_folds_1 : decode cL_folds 1 = .ok (.istore_n 3, 1) := by decide +kernel
theorem dL_folds_2 : decode cL_folds 2 = .ok (.iconst 1, 1) := by decide +kernel
theorem dL_folds_3 : decode cL_folds 3 = .ok (.istore 4, 2) := by decide +kernel
theorem dL_folds_5 : decode cL_folds 5 = .ok (.iconst 0, 1) := by decide +kernel
theorem dL_folds_6 : decode cL_folds 6 = .ok (.istore 5, 2) := by decide +kernel
theorem dL_folds_8 : decode cL_folds 8 = .ok (.iload 5, 2) := by decide +kernel
theorem dL_folds_10 : decode cL_folds 10 = .ok (.iload_n 2, 1) := by decide +kernel
theorem dL_folds_11 : decode cL_folds 11 = .ok (.iconst 1, 1) := by decide +kernel
theorem dL_folds_12 : decode cL_folds 12 = .ok (.isub, 1) := by decide +kernel
theorem dL_folds_13 : decode cL_folds 13 = .ok (.if_icmp .ge 16, 3) := by decide +kernel
theorem dL_folds_16 : decode cL_folds 16 = .ok (.iload 4, 2) := by decide +kernel
theorem dL_folds_18 : decode cL_folds 18 = .ok (.bipush 10, 2) := by decide +kernel
theorem dL_folds_20 : decode cL_folds 20 = .ok (.imul, 1) := by decide +kernel
theorem dL_folds_21 : decode cL_folds 21 = .ok (.istore 4, 2) := by decide +kernel
theorem dL_folds_23 : decode cL_folds 23 = .ok (.iinc 5 1, 3) := by decide +kernel
theorem dL_folds_26 : decode cL_folds 26 = .ok (.goto (-18), 3) := by decide +kernel
theorem dL_folds_29 : decode cL_folds 29 = .ok (.iconst 0, 1) := by decide +kernel
theorem dL_folds_30 : decode cL_folds 30 = .ok (.istore 5, 2) := by decide +kernel
theorem dL_folds_32 : decode cL_folds 32 = .ok (.iload 5, 2) := by decide +kernel
theorem dL_folds_34 : decode cL_folds 34 = .ok (.iload_n 2, 1) := by decide +kernel
theorem dL_folds_35 : decode cL_folds 35 = .ok (.if_icmp .ge 83, 3) := by decide +kernel
theorem dL_folds_38 : decode cL_folds 38 = .ok (.iload_n 3, 1) := by decide +kernel
theorem dL_folds_39 : decode cL_folds 39 = .ok (.ifCond .eq 79, 3) := by decide +kernel
theorem dL_folds_42 : decode cL_folds 42 = .ok (.aload_n 0, 1) := by decide +kernel
theorem dL_folds_43 : decode cL_folds 43 = .ok (.iconst 3, 1) := by decide +kernel
theorem dL_folds_44 : decode cL_folds 44 = .ok (.invokevirtual 9, 3) := by decide +kernel
theorem dL_folds_47 : decode cL_folds 47 = .ok (.istore 6, 2) := by decide +kernel
theorem dL_folds_49 : decode cL_folds 49 = .ok (.aload_n 0, 1) := by decide +kernel
theorem dL_folds_50 : decode cL_folds 50 = .ok (.iconst 0, 1) := by decide +kernel
theorem dL_folds_51 : decode cL_folds 51 = .ok (.invokevirtual 15, 3) := by decide +kernel
theorem dL_folds_54 : decode cL_folds 54 = .ok (.istore 7, 2) := by decide +kernel
theorem dL_folds_56 : decode cL_folds 56 = .ok (.aload_n 0, 1) := by decide +kernel
theorem dL_folds_57 : decode cL_folds 57 = .ok (.iload_n 1, 1) := by decide +kernel
theorem dL_folds_58 : decode cL_folds 58 = .ok (.iload 4, 2) := by decide +kernel
theorem dL_folds_60 : decode cL_folds 60 = .ok (.idiv, 1) := by decide +kernel
theorem dL_folds_61 : decode cL_folds 61 = .ok (.bipush 10, 2) := by decide +kernel
theorem dL_folds_63 : decode cL_folds 63 = .ok (.irem, 1) := by decide +kernel
theorem dL_folds_64 : decode cL_folds 64 = .ok (.invokevirtual 18, 3) := by decide +kernel
theorem dL_folds_67 : decode cL_folds 67 = .ok (.iconst 2, 1) := by decide +kernel
theorem dL_folds_68 : decode cL_folds 68 = .ok (.iload 6, 2) := by decide +kernel
theorem dL_folds_70 : decode cL_folds 70 = .ok (.imul, 1) := by decide +kernel
theorem dL_folds_71 : decode cL_folds 71 = .ok (.if_icmp .ne 32, 3) := by decide +kernel
theorem dL_folds_74 : decode cL_folds 74 = .ok (.aload_n 0, 1) := by decide +kernel
theorem dL_folds_75 : decode cL_folds 75 = .ok (.iconst 0, 1) := by decide +kernel
theorem dL_folds_76 : decode cL_folds 76 = .ok (.invokevirtual 15, 3) := by decide +kernel
theorem dL_folds_79 : decode cL_folds 79 = .ok (.iload 7, 2) := by decide +kernel
theorem dL_folds_81 : decode cL_folds 81 = .ok (.iload 6, 2) := by decide +kernel
theorem dL_folds_83 : decode cL_folds 83 = .ok (.iadd, 1) := by decide +kernel
theorem dL_folds_84 : decode cL_folds 84 = .ok (.if_icmp .ne 19, 3) := by decide +kernel
theorem dL_folds_87 : decode cL_folds 87 = .ok (.aload_n 0, 1) := by decide +kernel
theorem dL_folds_88 : decode cL_folds 88 = .ok (.iconst 2, 1) := by decide +kernel
theorem dL_folds_89 : decode cL_folds 89 = .ok (.invokevirtual 9, 3) := by decide +kernel
theorem dL_folds_92 : decode cL_folds 92 = .ok (.iload 5, 2) := by decide +kernel
theorem dL_folds_94 : decode cL_folds 94 = .ok (.iconst 1, 1) := by decide +kernel
theorem dL_folds_95 : decode cL_folds 95 = .ok (.iadd, 1) := by decide +kernel
theorem dL_folds_96 : decode cL_folds 96 = .ok (.if_icmp .ne 7, 3) := by decide +kernel
theorem dL_folds_99 : decode cL_folds 99 = .ok (.iconst 1, 1) := by decide +kernel
theorem dL_folds_100 : decode cL_folds 100 = .ok (.goto 4, 3) := by decide +kernel
theorem dL_folds_103 : decode cL_folds 103 = .ok (.iconst 0, 1) := by decide +kernel
theorem dL_folds_104 : decode cL_folds 104 = .ok (.istore_n 3, 1) := by decide +kernel
theorem dL_folds_105 : decode cL_folds 105 = .ok (.iload 4, 2) := by decide +kernel
theorem dL_folds_107 : decode cL_folds 107 = .ok (.bipush 10, 2) := by decide +kernel
theorem dL_folds_109 : decode cL_folds 109 = .ok (.idiv, 1) := by decide +kernel
theorem dL_folds_110 : decode cL_folds 110 = .ok (.istore 4, 2) := by decide +kernel
theorem dL_folds_112 : decode cL_folds 112 = .ok (.iinc 5 1, 3) := by decide +kernel
theorem dL_folds_115 : decode cL_folds 115 = .ok (.goto (-83), 3) := by decide +kernel
theorem dL_folds_118 : decode cL_folds 118 = .ok (.iload_n 3, 1) := by decide +kernel
theorem dL_folds_119 : decode cL_folds 119 = .ok (.ifCond .eq 25, 3) := by decide +kernel
theorem dL_folds_122 : decode cL_folds 122 = .ok (.aload_n 0, 1) := by decide +kernel
theorem dL_folds_123 : decode cL_folds 123 = .ok (.iconst 4, 1) := by decide +kernel
theorem dL_folds_124 : decode cL_folds 124 = .ok (.invokevirtual 9, 3) := by decide +kernel
theorem dL_folds_127 : decode cL_folds 127 = .ok (.iload_n 1, 1) := by decide +kernel
theorem dL_folds_128 : decode cL_folds 128 = .ok (.if_icmp .ne 16, 3) := by decide +kernel
theorem dL_folds_131 : decode cL_folds 131 = .ok (.aload_n 0, 1) := by decide +kernel
theorem dL_folds_132 : decode cL_folds 132 = .ok (.iconst 5, 1) := by decide +kernel
theorem dL_folds_133 : decode cL_folds 133 = .ok (.invokevirtual 9, 3) := by decide +kernel
theorem dL_folds_136 : decode cL_folds 136 = .ok (.iconst 1, 1) := by decide +kernel
theorem dL_folds_137 : decode cL_folds 137 = .ok (.if_icmp .ne 7, 3) := by decide +kernel
theorem dL_folds_140 : decode cL_folds 140 = .ok (.iconst 1, 1) := by decide +kernel
theorem dL_folds_141 : decode cL_folds 141 = .ok (.goto 4, 3) := by decide +kernel
theorem dL_folds_144 : decode cL_folds 144 = .ok (.iconst 0, 1) := by decide +kernel
theorem dL_folds_145 : decode cL_folds 145 = .ok (.ireturn, 1) := by decide +kernel
theorem dL_isRead_0 : decode cL_isRead 0 = .ok (.iconst 1, 1) := by decide +kernel
theorem dL_isRead_1 : decode cL_isRead 1 = .ok (.istore_n 2, 1) := by decide +kernel
theorem dL_isRead_2 : decode cL_isRead 2 = .ok (.bipush (-9), 2) := by decide +kernel
theorem dL_isRead_4 : decode cL_isRead 4 = .ok (.istore_n 3, 1) := by decide +kernel
theorem dL_isRead_5 : decode cL_isRead 5 = .ok (.iconst 0, 1) := by decide +kernel
theorem dL_isRead_6 : decode cL_isRead 6 = .ok (.istore 4, 2) := by decide +kernel
theorem dL_isRead_8 : decode cL_isRead 8 = .ok (.iload 4, 2) := by decide +kernel
theorem dL_isRead_10 : decode cL_isRead 10 = .ok (.iconst 2, 1) := by decide +kernel
theorem dL_isRead_11 : decode cL_isRead 11 = .ok (.iload_n 1, 1) := by decide +kernel
theorem dL_isRead_12 : decode cL_isRead 12 = .ok (.imul, 1) := by decide +kernel
theorem dL_isRead_13 : decode cL_isRead 13 = .ok (.if_icmp .ge 184, 3) := by decide +kernel
theorem dL_isRead_16 : decode cL_isRead 16 = .ok (.iload_n 2, 1) := by decide +kernel
theorem dL_isRead_17 : decode cL_isRead 17 = .ok (.ifCond .eq 180, 3) := by decide +kernel
theorem dL_isRead_20 : decode cL_isRead 20 = .ok (.aload_n 0, 1) := by decide +kernel
theorem dL_isRead_21 : decode cL_isRead 21 = .ok (.iload 4, 2) := by decide +kernel
theorem dL_isRead_23 : decode cL_isRead 23 = .ok (.iconst 5, 1) := by decide +kernel
theorem dL_isRead_24 : decode cL_isRead 24 = .ok (.invokevirtual 21, 3) := by decide +kernel
theorem dL_isRead_27 : decode cL_isRead 27 = .ok (.istore 5, 2) := by decide +kernel
theorem dL_isRead_29 : decode cL_isRead 29 = .ok (.iload 5, 2) := by decide +kernel
theorem dL_isRead_31 : decode cL_isRead 31 = .ok (.iconst 1, 1) := by decide +kernel
theorem dL_isRead_32 : decode cL_isRead 32 = .ok (.if_icmp .ne 12, 3) := by decide +kernel
theorem dL_isRead_35 : decode cL_isRead 35 = .ok (.iload_n 3, 1) := by decide +kernel
theorem dL_isRead_36 : decode cL_isRead 36 = .ok (.ifCond .ge 8, 3) := by decide +kernel
theorem dL_isRead_39 : decode cL_isRead 39 = .ok (.iload 4, 2) := by decide +kernel
theorem dL_isRead_41 : decode cL_isRead 41 = .ok (.goto 4, 3) := by decide +kernel
theorem dL_isRead_44 : decode cL_isRead 44 = .ok (.iload_n 3, 1) := by decide +kernel
theorem dL_isRead_45 : decode cL_isRead 45 = .ok (.istore_n 3, 1) := by decide +kernel
theorem dL_isRead_46 : decode cL_isRead 46 = .ok (.aload_n 0, 1) := by decide +kernel
theorem dL_isRead_47 : decode cL_isRead 47 = .ok (.iload 4, 2) := by decide +kernel
theorem dL_isRead_49 : decode cL_isRead 49 = .ok (.iconst 3, 1) := by decide +kernel
theorem dL_isRead_50 : decode cL_isRead 50 = .ok (.invokevirtual 21, 3) := by decide +kernel
theorem dL_isRead_53 : decode cL_isRead 53 = .ok (.iload 4, 2) := by decide +kernel
theorem dL_isRead_55 : decode cL_isRead 55 = .ok (.if_icmp .ne 60, 3) := by decide +kernel
theorem dL_isRead_58 : decode cL_isRead 58 = .ok (.aload_n 0, 1) := by decide +kernel
theorem dL_isRead_59 : decode cL_isRead 59 = .ok (.iload 4, 2) := by decide +kernel
theorem dL_isRead_61 : decode cL_isRead 61 = .ok (.iconst 4, 1) := by decide +kernel
theorem dL_isRead_62 : decode cL_isRead 62 = .ok (.invokevirtual 21, 3) := by decide +kernel
theorem dL_isRead_65 : decode cL_isRead 65 = .ok (.iconst 1, 1) := by decide +kernel
theorem dL_isRead_66 : decode cL_isRead 66 = .ok (.if_icmp .ne 49, 3) := by decide +kernel
theorem dL_isRead_69 : decode cL_isRead 69 = .ok (.aload_n 0, 1) := by decide +kernel
theorem dL_isRead_70 : decode cL_isRead 70 = .ok (.iload 4, 2) := by decide +kernel
theorem dL_isRead_72 : decode cL_isRead 72 = .ok (.invokevirtual 25, 3) := by decide +kernel
theorem dL_isRead_75 : decode cL_isRead 75 = .ok (.iload 4, 2) := by decide +kernel
theorem dL_isRead_77 : decode cL_isRead 77 = .ok (.if_icmp .ne 38, 3) := by decide +kernel
theorem dL_isRead_80 : decode cL_isRead 80 = .ok (.iload 5, 2) := by decide +kernel
theorem dL_isRead_82 : decode cL_isRead 82 = .ok (.aload_n 0, 1) := by decide +kernel
theorem dL_isRead_83 : decode cL_isRead 83 = .ok (.iload 4, 2) := by decide +kernel
theorem dL_isRead_85 : decode cL_isRead 85 = .ok (.iconst 1, 1) := by decide +kernel
theorem dL_isRead_86 : decode cL_isRead 86 = .ok (.iadd, 1) := by decide +kernel
theorem dL_isRead_87 : decode cL_isRead 87 = .ok (.iconst 2, 1) := by decide +kernel
theorem dL_isRead_88 : decode cL_isRead 88 = .ok (.idiv, 1) := by decide +kernel
theorem dL_isRead_89 : decode cL_isRead 89 = .ok (.iconst 0, 1) := by decide +kernel
theorem dL_isRead_90 : decode cL_isRead 90 = .ok (.invokevirtual 28, 3) := by decide +kernel
theorem dL_isRead_93 : decode cL_isRead 93 = .ok (.if_icmp .ne 22, 3) := by decide +kernel
theorem dL_isRead_96 : decode cL_isRead 96 = .ok (.aload_n 0, 1) := by decide +kernel
theorem dL_isRead_97 : decode cL_isRead 97 = .ok (.iload 4, 2) := by decide +kernel
theorem dL_isRead_99 : decode cL_isRead 99 = .ok (.bipush 6, 2) := by decide +kernel
theorem dL_isRead_101 : decode cL_isRead 101 = .ok (.invokevirtual 21, 3) := by decide +kernel
theorem dL_isRead_104 : decode cL_isRead 104 = .ok (.iconst 1, 1) := by decide +kernel
theorem dL_isRead_105 : decode cL_isRead 105 = .ok (.iload 5, 2) := by decide +kernel
theorem dL_isRead_107 : decode cL_isRead 107 = .ok (.isub, 1) := by decide +kernel
theorem dL_isRead_108 : decode cL_isRead 108 = .ok (.if_icmp .ne 7, 3) := by decide +kernel
theorem dL_isRead_111 : decode cL_isRead 111 = .ok (.iconst 1, 1) := by decide +kernel
theorem dL_isRead_112 : decode cL_isRead 112 = .ok (.goto 4, 3) := by decide +kernel
theorem dL_isRead_115 : decode cL_isRead 115 = .ok (.iconst 0, 1) := by decide +kernel
theorem dL_isRead_116 : decode cL_isRead 116 = .ok (.istore_n 2, 1) := by decide +kernel
theorem dL_isRead_117 : decode cL_isRead 117 = .ok (.iload_n 2, 1) := by decide +kernel
theorem dL_isRead_118 : decode cL_isRead 118 = .ok (.ifCond .eq 71, 3) := by decide +kernel
theorem dL_isRead_121 : decode cL_isRead 121 = .ok (.aload_n 0, 1) := by decide +kernel
theorem dL_isRead_122 : decode cL_isRead 122 = .ok (.aload_n 0, 1) := by decide +kernel
theorem dL_isRead_123 : decode cL_isRead 123 = .ok (.iload 4, 2) := by decide +kernel
theorem dL_isRead_125 : decode cL_isRead 125 = .ok (.iconst 0, 1) := by decide +kernel
theorem dL_isRead_126 : decode cL_isRead 126 = .ok (.invokevirtual 21, 3) := by decide +kernel
theorem dL_isRead_129 : decode cL_isRead 129 = .ok (.aload_n 0, 1) := by decide +kernel
theorem dL_isRead_130 : decode cL_isRead 130 = .ok (.iload 4, 2) := by decide +kernel
theorem dL_isRead_132 : decode cL_isRead 132 = .ok (.iconst 1, 1) := by decide +kernel
theorem dL_isRead_133 : decode cL_isRead 133 = .ok (.invokevirtual 21, 3) := by decide +kernel
theorem dL_isRead_136 : decode cL_isRead 136 = .ok (.aload_n 0, 1) := by decide +kernel
theorem dL_isRead_137 : decode cL_isRead 137 = .ok (.iload 4, 2) := by decide +kernel
theorem dL_isRead_139 : decode cL_isRead 139 = .ok (.iconst 2, 1) := by decide +kernel
theorem dL_isRead_140 : decode cL_isRead 140 = .ok (.invokevirtual 21, 3) := by decide +kernel
theorem dL_isRead_143 : decode cL_isRead 143 = .ok (.iconst 0, 1) := by decide +kernel
theorem dL_isRead_144 : decode cL_isRead 144 = .ok (.invokevirtual 31, 3) := by decide +kernel
theorem dL_isRead_147 : decode cL_isRead 147 = .ok (.iload 4, 2) := by decide +kernel
theorem dL_isRead_149 : decode cL_isRead 149 = .ok (.if_icmp .ne 40, 3) := by decide +kernel
theorem dL_isRead_152 : decode cL_isRead 152 = .ok (.iload 5, 2) := by decide +kernel
theorem dL_isRead_154 : decode cL_isRead 154 = .ok (.iconst 1, 1) := by decide +kernel
theorem dL_isRead_155 : decode cL_isRead 155 = .ok (.if_icmp .ne 7, 3) := by decide +kernel
theorem dL_isRead_158 : decode cL_isRead 158 = .ok (.iconst 1, 1) := by decide +kernel
theorem dL_isRead_159 : decode cL_isRead 159 = .ok (.goto 4, 3) := by decide +kernel
theorem dL_isRead_162 : decode cL_isRead 162 = .ok (.iconst 0, 1) := by decide +kernel
theorem dL_isRead_163 : decode cL_isRead 163 = .ok (.aload_n 0, 1) := by decide +kernel
theorem dL_isRead_164 : decode cL_isRead 164 = .ok (.iload 4, 2) := by decide +kernel
theorem dL_isRead_166 : decode cL_isRead 166 = .ok (.iconst 1, 1) := by decide +kernel
theorem dL_isRead_167 : decode cL_isRead 167 = .ok (.iadd, 1) := by decide +kernel
theorem dL_isRead_168 : decode cL_isRead 168 = .ok (.iconst 2, 1) := by decide +kernel
theorem dL_isRead_169 : decode cL_isRead 169 = .ok (.idiv, 1) := by decide +kernel
theorem dL_isRead_170 : decode cL_isRead 170 = .ok (.iconst 1, 1) := by decide +kernel
theorem dL_isRead_171 : decode cL_isRead 171 = .ok (.invokevirtual 28, 3) := by decide +kernel
theorem dL_isRead_174 : decode cL_isRead 174 = .ok (.ifCond .le 7, 3) := by decide +kernel
theorem dL_isRead_177 : decode cL_isRead 177 = .ok (.iconst 1, 1) := by decide +kernel
theorem dL_isRead_178 : decode cL_isRead 178 = .ok (.goto 4, 3) := by decide +kernel
theorem dL_isRead_181 : decode cL_isRead 181 = .ok (.iconst 0, 1) := by decide +kernel
theorem dL_isRead_182 : decode cL_isRead 182 = .ok (.if_icmp .ne 7, 3) := by decide +kernel
theorem dL_isRead_185 : decode cL_isRead 185 = .ok (.iconst 1, 1) := by decide +kernel
theorem dL_isRead_186 : decode cL_isRead 186 = .ok (.goto 4, 3) := by decide +kernel
theorem dL_isRead_189 : decode cL_isRead 189 = .ok (.iconst 0, 1) := by decide +kernel
theorem dL_isRead_190 : decode cL_isRead 190 = .ok (.istore_n 2, 1) := by decide +kernel
theorem dL_isRead_191 : decode cL_isRead 191 = .ok (.iinc 4 1, 3) := by decide +kernel
theorem dL_isRead_194 : decode cL_isRead 194 = .ok (.goto (-186), 3) := by decide +kernel
theorem dL_isRead_197 : decode cL_isRead 197 = .ok (.iload_n 2, 1) := by decide +kernel
theorem dL_isRead_198 : decode cL_isRead 198 = .ok (.ifCond .eq 53, 3) := by decide +kernel
theorem dL_isRead_201 : decode cL_isRead 201 = .ok (.aload_n 0, 1) := by decide +kernel
theorem dL_isRead_202 : decode cL_isRead 202 = .ok (.iconst 0, 1) := by decide +kernel
theorem dL_isRead_203 : decode cL_isRead 203 = .ok (.invokevirtual 35, 3) := by decide +kernel
theorem dL_isRead_206 : decode cL_isRead 206 = .ok (.iload_n 3, 1) := by decide +kernel
theorem dL_isRead_207 : decode cL_isRead 207 = .ok (.ifCond .ge 9, 3) := by decide +kernel
theorem dL_isRead_210 : decode cL_isRead 210 = .ok (.iconst 2, 1) := by decide +kernel
theorem dL_isRead_211 : decode cL_isRead 211 = .ok (.iload_n 1, 1) := by decide +kernel
theorem dL_isRead_212 : decode cL_isRead 212 = .ok (.imul, 1) := by decide +kernel
theorem dL_isRead_213 : decode cL_isRead 213 = .ok (.goto 4, 3) := by decide +kernel
theorem dL_isRead_216 : decode cL_isRead 216 = .ok (.iload_n 3, 1) := by decide +kernel
theorem dL_isRead_217 : decode cL_isRead 217 = .ok (.if_icmp .ne 34, 3) := by decide +kernel
theorem dL_isRead_220 : decode cL_isRead 220 = .ok (.aload_n 0, 1) := by decide +kernel
theorem dL_isRead_221 : decode cL_isRead 221 = .ok (.iconst 1, 1) := by decide +kernel
theorem dL_isRead_222 : decode cL_isRead 222 = .ok (.invokevirtual 35, 3) := by decide +kernel
theorem dL_isRead_225 : decode cL_isRead 225 = .ok (.iload_n 3, 1) := by decide +kernel
theorem dL_isRead_226 : decode cL_isRead 226 = .ok (.if_icmp .ne 25, 3) := by decide +kernel
theorem dL_isRead_229 : decode cL_isRead 229 = .ok (.aload_n 0, 1) := by decide +kernel
theorem dL_isRead_230 : decode cL_isRead 230 = .ok (.iconst 2, 1) := by decide +kernel
theorem dL_isRead_231 : decode cL_isRead 231 = .ok (.invokevirtual 35, 3) := by decide +kernel
theorem dL_isRead_234 : decode cL_isRead 234 = .ok (.iload_n 3, 1) := by decide +kernel
theorem dL_isRead_235 : decode cL_isRead 235 = .ok (.ifCond .ge 8, 3) := by decide +kernel
theorem dL_isRead_238 : decode cL_isRead 238 = .ok (.bipush (-9), 2) := by decide +kernel
theorem dL_isRead_240 : decode cL_isRead 240 = .ok (.goto 4, 3) := by decide +kernel
theorem dL_isRead_243 : decode cL_isRead 243 = .ok (.iconst 1, 1) := by decide +kernel
theorem dL_isRead_244 : decode cL_isRead 244 = .ok (.if_icmp .ne 7, 3) := by decide +kernel
theorem dL_isRead_247 : decode cL_isRead 247 = .ok (.iconst 1, 1) := by decide +kernel
theorem dL_isRead_248 : decode cL_isRead 248 = .ok (.goto 4, 3) := by decide +kernel
theorem dL_isRead_251 : decode cL_isRead 251 = .ok (.iconst 0, 1) := by decide +kernel
theorem dL_isRead_252 : decode cL_isRead 252 = .ok (.ireturn, 1) := by decide +kernel
theorem dL_isCut_0 : decode cL_isCut 0 = .ok (.iload_n 2, 1) := by decide +kernel
theorem dL_isCut_1 : decode cL_isCut 1 = .ok (.iload_n 3, 1) := by decide +kernel
theorem dL_isCut_2 : decode cL_isCut 2 = .ok (.imul, 1) := by decide +kernel
theorem dL_isCut_3 : decode cL_isCut 3 = .ok (.istore 4, 2) := by decide +kernel
theorem dL_isCut_5 : decode cL_isCut 5 = .ok (.iconst 0, 1) := by decide +kernel
theorem dL_isCut_6 : decode cL_isCut 6 = .ok (.istore 5, 2) := by decide +kernel
theorem dL_isCut_8 : decode cL_isCut 8 = .ok (.iconst 0, 1) := by decide +kernel
theorem dL_isCut_9 : decode cL_isCut 9 = .ok (.istore 6, 2) := by decide +kernel
theorem dL_isCut_11 : decode cL_isCut 11 = .ok (.iload 6, 2) := by decide +kernel
theorem dL_isCut_13 : decode cL_isCut 13 = .ok (.iconst 4, 1) := by decide +kernel
theorem dL_isCut_14 : decode cL_isCut 14 = .ok (.if_icmp .ge 20, 3) := by decide +kernel
theorem dL_isCut_17 : decode cL_isCut 17 = .ok (.iload 5, 2) := by decide +kernel
theorem dL_isCut_19 : decode cL_isCut 19 = .ok (.aload_n 0, 1) := by decide +kernel
theorem dL_isCut_20 : decode cL_isCut 20 = .ok (.iload 6, 2) := by decide +kernel
theorem dL_isCut_22 : decode cL_isCut 22 = .ok (.invokevirtual 38, 3) := by decide +kernel
theorem dL_isCut_25 : decode cL_isCut 25 = .ok (.iadd, 1) := by decide +kernel
theorem dL_isCut_26 : decode cL_isCut 26 = .ok (.istore 5, 2) := by decide +kernel
theorem dL_isCut_28 : decode cL_isCut 28 = .ok (.iinc 6 1, 3) := by decide +kernel
theorem dL_isCut_31 : decode cL_isCut 31 = .ok (.goto (-20), 3) := by decide +kernel
theorem dL_isCut_34 : decode cL_isCut 34 = .ok (.iload 5, 2) := by decide +kernel
theorem dL_isCut_36 : decode cL_isCut 36 = .ok (.iload_n 2, 1) := by decide +kernel
theorem dL_isCut_37 : decode cL_isCut 37 = .ok (.iload_n 3, 1) := by decide +kernel
theorem dL_isCut_38 : decode cL_isCut 38 = .ok (.iconst 1, 1) := by decide +kernel
theorem dL_isCut_39 : decode cL_isCut 39 = .ok (.isub, 1) := by decide +kernel
theorem dL_isCut_40 : decode cL_isCut 40 = .ok (.imul, 1) := by decide +kernel
theorem dL_isCut_41 : decode cL_isCut 41 = .ok (.iload_n 3, 1) := by decide +kernel
theorem dL_isCut_42 : decode cL_isCut 42 = .ok (.iload_n 2, 1) := by decide +kernel
theorem dL_isCut_43 : decode cL_isCut 43 = .ok (.iconst 1, 1) := by decide +kernel
theorem dL_isCut_44 : decode cL_isCut 44 = .ok (.isub, 1) := by decide +kernel
theorem dL_isCut_45 : decode cL_isCut 45 = .ok (.imul, 1) := by decide +kernel
theorem dL_isCut_46 : decode cL_isCut 46 = .ok (.iadd, 1) := by decide +kernel
theorem dL_isCut_47 : decode cL_isCut 47 = .ok (.if_icmp .ne 15, 3) := by decide +kernel
theorem dL_isCut_50 : decode cL_isCut 50 = .ok (.aload_n 0, 1) := by decide +kernel
theorem dL_isCut_51 : decode cL_isCut 51 = .ok (.invokevirtual 41, 3) := by decide +kernel
theorem dL_isCut_54 : decode cL_isCut 54 = .ok (.iconst 1, 1) := by decide +kernel
theorem dL_isCut_55 : decode cL_isCut 55 = .ok (.if_icmp .ne 7, 3) := by decide +kernel
theorem dL_isCut_58 : decode cL_isCut 58 = .ok (.iconst 1, 1) := by decide +kernel
theorem dL_isCut_59 : decode cL_isCut 59 = .ok (.goto 4, 3) := by decide +kernel
theorem dL_isCut_62 : decode cL_isCut 62 = .ok (.iconst 0, 1) := by decide +kernel
theorem dL_isCut_63 : decode cL_isCut 63 = .ok (.istore 6, 2) := by decide +kernel
theorem dL_isCut_65 : decode cL_isCut 65 = .ok (.aload_n 0, 1) := by decide +kernel
theorem dL_isCut_66 : decode cL_isCut 66 = .ok (.iload_n 1, 1) := by decide +kernel
theorem dL_isCut_67 : decode cL_isCut 67 = .ok (.invokevirtual 45, 3) := by decide +kernel
theorem dL_isCut_70 : decode cL_isCut 70 = .ok (.istore 7, 2) := by decide +kernel
theorem dL_isCut_72 : decode cL_isCut 72 = .ok (.aload_n 0, 1) := by decide +kernel
theorem dL_isCut_73 : decode cL_isCut 73 = .ok (.iconst 2, 1) := by decide +kernel
theorem dL_isCut_74 : decode cL_isCut 74 = .ok (.invokevirtual 15, 3) := by decide +kernel
theorem dL_isCut_77 : decode cL_isCut 77 = .ok (.istore 8, 2) := by decide +kernel
theorem dL_isCut_79 : decode cL_isCut 79 = .ok (.iconst 0, 1) := by decide +kernel
theorem dL_isCut_80 : decode cL_isCut 80 = .ok (.istore 9, 2) := by decide +kernel
theorem dL_isCut_82 : decode cL_isCut 82 = .ok (.iload 9, 2) := by decide +kernel
theorem dL_isCut_84 : decode cL_isCut 84 = .ok (.iconst 4, 1) := by decide +kernel
theorem dL_isCut_85 : decode cL_isCut 85 = .ok (.if_icmp .ge 76, 3) := by decide +kernel
theorem dL_isCut_88 : decode cL_isCut 88 = .ok (.iload 6, 2) := by decide +kernel
theorem dL_isCut_90 : decode cL_isCut 90 = .ok (.ifCond .eq 71, 3) := by decide +kernel
theorem dL_isCut_93 : decode cL_isCut 93 = .ok (.iload 7, 2) := by decide +kernel
theorem dL_isCut_95 : decode cL_isCut 95 = .ok (.iload 9, 2) := by decide +kernel
theorem dL_isCut_97 : decode cL_isCut 97 = .ok (.ishr, 1) := by decide +kernel
theorem dL_isCut_98 : decode cL_isCut 98 = .ok (.iconst 1, 1) := by decide +kernel
theorem dL_isCut_99 : decode cL_isCut 99 = .ok (.iand, 1) := by decide +kernel
theorem dL_isCut_100 : decode cL_isCut 100 = .ok (.iconst 1, 1) := by decide +kernel
theorem dL_isCut_101 : decode cL_isCut 101 = .ok (.if_icmp .ne 54, 3) := by decide +kernel
theorem dL_isCut_104 : decode cL_isCut 104 = .ok (.aload_n 0, 1) := by decide +kernel
theorem dL_isCut_105 : decode cL_isCut 105 = .ok (.iload 9, 2) := by decide +kernel
theorem dL_isCut_107 : decode cL_isCut 107 = .ok (.invokevirtual 38, 3) := by decide +kernel
theorem dL_isCut_110 : decode cL_isCut 110 = .ok (.istore 10, 2) := by decide +kernel
theorem dL_isCut_112 : decode cL_isCut 112 = .ok (.iload 10, 2) := by decide +kernel
theorem dL_isCut_114 : decode cL_isCut 114 = .ok (.ifCond .le 38, 3) := by decide +kernel
theorem dL_isCut_117 : decode cL_isCut 117 = .ok (.aload_n 0, 1) := by decide +kernel
theorem dL_isCut_118 : decode cL_isCut 118 = .ok (.iload 9, 2) := by decide +kernel
theorem dL_isCut_120 : decode cL_isCut 120 = .ok (.invokevirtual 48, 3) := by decide +kernel
theorem dL_isCut_123 : decode cL_isCut 123 = .ok (.iload 10, 2) := by decide +kernel
theorem dL_isCut_125 : decode cL_isCut 125 = .ok (.if_icmp .ne 27, 3) := by decide +kernel
theorem dL_isCut_128 : decode cL_isCut 128 = .ok (.aload_n 0, 1) := by decide +kernel
theorem dL_isCut_129 : decode cL_isCut 129 = .ok (.iload 9, 2) := by decide +kernel
theorem dL_isCut_131 : decode cL_isCut 131 = .ok (.invokevirtual 38, 3) := by decide +kernel
theorem dL_isCut_134 : decode cL_isCut 134 = .ok (.ifCond .ne 18, 3) := by decide +kernel
theorem dL_isCut_137 : decode cL_isCut 137 = .ok (.aload_n 0, 1) := by decide +kernel
theorem dL_isCut_138 : decode cL_isCut 138 = .ok (.iload 9, 2) := by decide +kernel
theorem dL_isCut_140 : decode cL_isCut 140 = .ok (.invokevirtual 48, 3) := by decide +kernel
theorem dL_isCut_143 : decode cL_isCut 143 = .ok (.bipush (-2), 2) := by decide +kernel
theorem dL_isCut_145 : decode cL_isCut 145 = .ok (.if_icmp .ne 7, 3) := by decide +kernel
theorem dL_isCut_148 : decode cL_isCut 148 = .ok (.iconst 1, 1) := by decide +kernel
theorem dL_isCut_149 : decode cL_isCut 149 = .ok (.goto 4, 3) := by decide +kernel
theorem dL_isCut_152 : decode cL_isCut 152 = .ok (.iconst 0, 1) := by decide +kernel
theorem dL_isCut_153 : decode cL_isCut 153 = .ok (.istore 6, 2) := by decide +kernel
theorem dL_isCut_155 : decode cL_isCut 155 = .ok (.iinc 9 1, 3) := by decide +kernel
theorem dL_isCut_158 : decode cL_isCut 158 = .ok (.goto (-76), 3) := by decide +kernel
theorem dL_isCut_161 : decode cL_isCut 161 = .ok (.iload 6, 2) := by decide +kernel
theorem dL_isCut_163 : decode cL_isCut 163 = .ok (.ifCond .eq 59, 3) := by decide +kernel
theorem dL_isCut_166 : decode cL_isCut 166 = .ok (.aload_n 0, 1) := by decide +kernel
theorem dL_isCut_167 : decode cL_isCut 167 = .ok (.bipush 6, 2) := by decide +kernel
theorem dL_isCut_169 : decode cL_isCut 169 = .ok (.invokevirtual 9, 3) := by decide +kernel
theorem dL_isCut_172 : decode cL_isCut 172 = .ok (.iload 7, 2) := by decide +kernel
theorem dL_isCut_174 : decode cL_isCut 174 = .ok (.if_icmp .ne 48, 3) := by decide +kernel
theorem dL_isCut_177 : decode cL_isCut 177 = .ok (.aload_n 0, 1) := by decide +kernel
theorem dL_isCut_178 : decode cL_isCut 178 = .ok (.iconst 2, 1) := by decide +kernel
theorem dL_isCut_179 : decode cL_isCut 179 = .ok (.invokevirtual 15, 3) := by decide +kernel
theorem dL_isCut_182 : decode cL_isCut 182 = .ok (.iload 8, 2) := by decide +kernel
theorem dL_isCut_184 : decode cL_isCut 184 = .ok (.iload 7, 2) := by decide +kernel
theorem dL_isCut_186 : decode cL_isCut 186 = .ok (.invokestatic 51, 3) := by decide +kernel
theorem dL_isCut_189 : decode cL_isCut 189 = .ok (.iload 4, 2) := by decide +kernel
theorem dL_isCut_191 : decode cL_isCut 191 = .ok (.imul, 1) := by decide +kernel
theorem dL_isCut_192 : decode cL_isCut 192 = .ok (.iadd, 1) := by decide +kernel
theorem dL_isCut_193 : decode cL_isCut 193 = .ok (.if_icmp .ne 29, 3) := by decide +kernel
theorem dL_isCut_196 : decode cL_isCut 196 = .ok (.aload_n 0, 1) := by decide +kernel
theorem dL_isCut_197 : decode cL_isCut 197 = .ok (.iconst 0, 1) := by decide +kernel
theorem dL_isCut_198 : decode cL_isCut 198 = .ok (.invokevirtual 35, 3) := by decide +kernel
theorem dL_isCut_201 : decode cL_isCut 201 = .ok (.iconst 2, 1) := by decide +kernel
theorem dL_isCut_202 : decode cL_isCut 202 = .ok (.iload 4, 2) := by decide +kernel
theorem dL_isCut_204 : decode cL_isCut 204 = .ok (.imul, 1) := by decide +kernel
theorem dL_isCut_205 : decode cL_isCut 205 = .ok (.if_icmp .ne 17, 3) := by decide +kernel
theorem dL_isCut_208 : decode cL_isCut 208 = .ok (.aload_n 0, 1) := by decide +kernel
theorem dL_isCut_209 : decode cL_isCut 209 = .ok (.iconst 1, 1) := by decide +kernel
theorem dL_isCut_210 : decode cL_isCut 210 = .ok (.invokevirtual 35, 3) := by decide +kernel
theorem dL_isCut_213 : decode cL_isCut 213 = .ok (.bipush (-9), 2) := by decide +kernel
theorem dL_isCut_215 : decode cL_isCut 215 = .ok (.if_icmp .ne 7, 3) := by decide +kernel
theorem dL_isCut_218 : decode cL_isCut 218 = .ok (.iconst 1, 1) := by decide +kernel
theorem dL_isCut_219 : decode cL_isCut 219 = .ok (.goto 4, 3) := by decide +kernel
theorem dL_isCut_222 : decode cL_isCut 222 = .ok (.iconst 0, 1) := by decide +kernel
theorem dL_isCut_223 : decode cL_isCut 223 = .ok (.istore 6, 2) := by decide +kernel
theorem dL_isCut_225 : decode cL_isCut 225 = .ok (.iconst 0, 1) := by decide +kernel
theorem dL_isCut_226 : decode cL_isCut 226 = .ok (.istore 9, 2) := by decide +kernel
theorem dL_isCut_228 : decode cL_isCut 228 = .ok (.iload 9, 2) := by decide +kernel
theorem dL_isCut_230 : decode cL_isCut 230 = .ok (.iload 4, 2) := by decide +kernel
theorem dL_isCut_232 : decode cL_isCut 232 = .ok (.if_icmp .gt 65, 3) := by decide +kernel
theorem dL_isCut_235 : decode cL_isCut 235 = .ok (.iload 6, 2) := by decide +kernel
theorem dL_isCut_237 : decode cL_isCut 237 = .ok (.ifCond .eq 60, 3) := by decide +kernel
theorem dL_isCut_240 : decode cL_isCut 240 = .ok (.aload_n 0, 1) := by decide +kernel
theorem dL_isCut_241 : decode cL_isCut 241 = .ok (.iload 9, 2) := by decide +kernel
theorem dL_isCut_243 : decode cL_isCut 243 = .ok (.iconst 0, 1) := by decide +kernel
theorem dL_isCut_244 : decode cL_isCut 244 = .ok (.invokevirtual 28, 3) := by decide +kernel
theorem dL_isCut_247 : decode cL_isCut 247 = .ok (.ifCond .ne 41, 3) := by decide +kernel
theorem dL_isCut_250 : decode cL_isCut 250 = .ok (.aload_n 0, 1) := by decide +kernel
theorem dL_isCut_251 : decode cL_isCut 251 = .ok (.iload 9, 2) := by decide +kernel
theorem dL_isCut_253 : decode cL_isCut 253 = .ok (.iconst 2, 1) := by decide +kernel
theorem dL_isCut_254 : decode cL_isCut 254 = .ok (.invokevirtual 28, 3) := by decide +kernel
theorem dL_isCut_257 : decode cL_isCut 257 = .ok (.iload 9, 2) := by decide +kernel
theorem dL_isCut_259 : decode cL_isCut 259 = .ok (.ifCond .eq 10, 3) := by decide +kernel
theorem dL_isCut_262 : decode cL_isCut 262 = .ok (.iload 9, 2) := by decide +kernel
theorem dL_isCut_264 : decode cL_isCut 264 = .ok (.iload 4, 2) := by decide +kernel
theorem dL_isCut_266 : decode cL_isCut 266 = .ok (.if_icmp .ne 7, 3) := by decide +kernel
theorem dL_isCut_269 : decode cL_isCut 269 = .ok (.iconst 1, 1) := by decide +kernel
theorem dL_isCut_270 : decode cL_isCut 270 = .ok (.goto 4, 3) := by decide +kernel
theorem dL_isCut_273 : decode cL_isCut 273 = .ok (.iconst 2, 1) := by decide +kernel
theorem dL_isCut_274 : decode cL_isCut 274 = .ok (.aload_n 0, 1) := by decide +kernel
theorem dL_isCut_275 : decode cL_isCut 275 = .ok (.bipush 13, 2) := by decide +kernel
theorem dL_isCut_277 : decode cL_isCut 277 = .ok (.invokevirtual 9, 3) := by decide +kernel
theorem dL_isCut_280 : decode cL_isCut 280 = .ok (.imul, 1) := by decide +kernel
theorem dL_isCut_281 : decode cL_isCut 281 = .ok (.if_icmp .ne 7, 3) := by decide +kernel
theorem dL_isCut_284 : decode cL_isCut 284 = .ok (.iconst 1, 1) := by decide +kernel
theorem dL_isCut_285 : decode cL_isCut 285 = .ok (.goto 4, 3) := by decide +kernel
theorem dL_isCut_288 : decode cL_isCut 288 = .ok (.iconst 0, 1) := by decide +kernel
theorem dL_isCut_289 : decode cL_isCut 289 = .ok (.istore 6, 2) := by decide +kernel
theorem dL_isCut_291 : decode cL_isCut 291 = .ok (.iinc 9 1, 3) := by decide +kernel
theorem dL_isCut_294 : decode cL_isCut 294 = .ok (.goto (-66), 3) := by decide +kernel
theorem dL_isCut_297 : decode cL_isCut 297 = .ok (.iload 6, 2) := by decide +kernel
theorem dL_isCut_299 : decode cL_isCut 299 = .ok (.ifCond .eq 41, 3) := by decide +kernel
theorem dL_isCut_302 : decode cL_isCut 302 = .ok (.iload 7, 2) := by decide +kernel
theorem dL_isCut_304 : decode cL_isCut 304 = .ok (.ifCond .eq 32, 3) := by decide +kernel
theorem dL_isCut_307 : decode cL_isCut 307 = .ok (.aload_n 0, 1) := by decide +kernel
theorem dL_isCut_308 : decode cL_isCut 308 = .ok (.invokevirtual 56, 3) := by decide +kernel
theorem dL_isCut_311 : decode cL_isCut 311 = .ok (.bipush (-2), 2) := by decide +kernel
theorem dL_isCut_313 : decode cL_isCut 313 = .ok (.if_icmp .ne 27, 3) := by decide +kernel
theorem dL_isCut_316 : decode cL_isCut 316 = .ok (.aload_n 0, 1) := by decide +kernel
theorem dL_isCut_317 : decode cL_isCut 317 = .ok (.iconst 1, 1) := by decide +kernel
theorem dL_isCut_318 : decode cL_isCut 318 = .ok (.invokevirtual 18, 3) := by decide +kernel
theorem dL_isCut_321 : decode cL_isCut 321 = .ok (.bipush (-2), 2) := by decide +kernel
theorem dL_isCut_323 : decode cL_isCut 323 = .ok (.if_icmp .ne 17, 3) := by decide +kernel
theorem dL_isCut_326 : decode cL_isCut 326 = .ok (.aload_n 0, 1) := by decide +kernel
theorem dL_isCut_327 : decode cL_isCut 327 = .ok (.iload_n 1, 1) := by decide +kernel
theorem dL_isCut_328 : decode cL_isCut 328 = .ok (.invokevirtual 59, 3) := by decide +kernel
theorem dL_isCut_331 : decode cL_isCut 331 = .ok (.bipush (-2), 2) := by decide +kernel
theorem dL_isCut_333 : decode cL_isCut 333 = .ok (.if_icmp .ne 7, 3) := by decide +kernel
theorem dL_isCut_336 : decode cL_isCut 336 = .ok (.iconst 1, 1) := by decide +kernel
theorem dL_isCut_337 : decode cL_isCut 337 = .ok (.goto 4, 3) := by decide +kernel
theorem dL_isCut_340 : decode cL_isCut 340 = .ok (.iconst 0, 1) := by decide +kernel
theorem dL_isCut_341 : decode cL_isCut 341 = .ok (.ireturn, 1) := by decide +kernel
theorem dL_isHeld_0 : decode cL_isHeld 0 = .ok (.iconst 0, 1) := by decide +kernel
theorem dL_isHeld_1 : decode cL_isHeld 1 = .ok (.istore_n 3, 1) := by decide +kernel
theorem dL_isHeld_2 : decode cL_isHeld 2 = .ok (.iload_n 3, 1) := by decide +kernel
theorem dL_isHeld_3 : decode cL_isHeld 3 = .ok (.iconst 4, 1) := by decide +kernel
theorem dL_isHeld_4 : decode cL_isHeld 4 = .ok (.if_icmp .ge 30, 3) := by decide +kernel
theorem dL_isHeld_7 : decode cL_isHeld 7 = .ok (.aload_n 0, 1) := by decide +kernel
theorem dL_isHeld_8 : decode cL_isHeld 8 = .ok (.iload_n 3, 1) := by decide +kernel
theorem dL_isHeld_9 : decode cL_isHeld 9 = .ok (.invokevirtual 48, 3) := by decide +kernel
theorem dL_isHeld_12 : decode cL_isHeld 12 = .ok (.istore 4, 2) := by decide +kernel
theorem dL_isHeld_14 : decode cL_isHeld 14 = .ok (.iload 4, 2) := by decide +kernel
theorem dL_isHeld_16 : decode cL_isHeld 16 = .ok (.ifCond .ge 12, 3) := by decide +kernel
theorem dL_isHeld_19 : decode cL_isHeld 19 = .ok (.iload 4, 2) := by decide +kernel
theorem dL_isHeld_21 : decode cL_isHeld 21 = .ok (.bipush (-2), 2) := by decide +kernel
theorem dL_isHeld_23 : decode cL_isHeld 23 = .ok (.if_icmp .eq 5, 3) := by decide +kernel
theorem dL_isHeld_26 : decode cL_isHeld 26 = .ok (.iconst 0, 1) := by decide +kernel
theorem dL_isHeld_27 : decode cL_isHeld 27 = .ok (.ireturn, 1) := by decide +kernel
theorem dL_isHeld_28 : decode cL_isHeld 28 = .ok (.iinc 3 1, 3) := by decide +kernel
theorem dL_isHeld_31 : decode cL_isHeld 31 = .ok (.goto (-29), 3) := by decide +kernel
theorem dL_isHeld_34 : decode cL_isHeld 34 = .ok (.iconst 1, 1) := by decide +kernel
theorem dL_isHeld_35 : decode cL_isHeld 35 = .ok (.iload_n 2, 1) := by decide +kernel
theorem dL_isHeld_36 : decode cL_isHeld 36 = .ok (.bipush 16, 2) := by decide +kernel
theorem dL_isHeld_38 : decode cL_isHeld 38 = .ok (.irem, 1) := by decide +kernel
theorem dL_isHeld_39 : decode cL_isHeld 39 = .ok (.iadd, 1) := by decide +kernel
theorem dL_isHeld_40 : decode cL_isHeld 40 = .ok (.istore_n 3, 1) := by decide +kernel
theorem dL_isHeld_41 : decode cL_isHeld 41 = .ok (.aload_n 0, 1) := by decide +kernel
theorem dL_isHeld_42 : decode cL_isHeld 42 = .ok (.invokevirtual 41, 3) := by decide +kernel
theorem dL_isHeld_45 : decode cL_isHeld 45 = .ok (.iload_n 1, 1) := by decide +kernel
theorem dL_isHeld_46 : decode cL_isHeld 46 = .ok (.if_icmp .ne 50, 3) := by decide +kernel
theorem dL_isHeld_49 : decode cL_isHeld 49 = .ok (.aload_n 0, 1) := by decide +kernel
theorem dL_isHeld_50 : decode cL_isHeld 50 = .ok (.iload_n 3, 1) := by decide +kernel
theorem dL_isHeld_51 : decode cL_isHeld 51 = .ok (.invokevirtual 62, 3) := by decide +kernel
theorem dL_isHeld_54 : decode cL_isHeld 54 = .ok (.iconst 4, 1) := by decide +kernel
theorem dL_isHeld_55 : decode cL_isHeld 55 = .ok (.if_icmp .ne 41, 3) := by decide +kernel
theorem dL_isHeld_58 : decode cL_isHeld 58 = .ok (.aload_n 0, 1) := by decide +kernel
theorem dL_isHeld_59 : decode cL_isHeld 59 = .ok (.iload_n 2, 1) := by decide +kernel
theorem dL_isHeld_60 : decode cL_isHeld 60 = .ok (.bipush 10, 2) := by decide +kernel
theorem dL_isHeld_62 : decode cL_isHeld 62 = .ok (.irem, 1) := by decide +kernel
theorem dL_isHeld_63 : decode cL_isHeld 63 = .ok (.invokevirtual 65, 3) := by decide +kernel
theorem dL_isHeld_66 : decode cL_isHeld 66 = .ok (.iload_n 3, 1) := by decide +kernel
theorem dL_isHeld_67 : decode cL_isHeld 67 = .ok (.iload_n 1, 1) := by decide +kernel
theorem dL_isHeld_68 : decode cL_isHeld 68 = .ok (.if_icmp .ge 7, 3) := by decide +kernel
theorem dL_isHeld_71 : decode cL_isHeld 71 = .ok (.iload_n 3, 1) := by decide +kernel
theorem dL_isHeld_72 : decode cL_isHeld 72 = .ok (.goto 4, 3) := by decide +kernel
theorem dL_isHeld_75 : decode cL_isHeld 75 = .ok (.iload_n 1, 1) := by decide +kernel
theorem dL_isHeld_76 : decode cL_isHeld 76 = .ok (.if_icmp .ne 20, 3) := by decide +kernel
theorem dL_isHeld_79 : decode cL_isHeld 79 = .ok (.aload_n 0, 1) := by decide +kernel
theorem dL_isHeld_80 : decode cL_isHeld 80 = .ok (.iload_n 2, 1) := by decide +kernel
theorem dL_isHeld_81 : decode cL_isHeld 81 = .ok (.bipush 10, 2) := by decide +kernel
theorem dL_isHeld_83 : decode cL_isHeld 83 = .ok (.irem, 1) := by decide +kernel
theorem dL_isHeld_84 : decode cL_isHeld 84 = .ok (.invokevirtual 65, 3) := by decide +kernel
theorem dL_isHeld_87 : decode cL_isHeld 87 = .ok (.bipush (-2), 2) := by decide +kernel
theorem dL_isHeld_89 : decode cL_isHeld 89 = .ok (.if_icmp .ne 7, 3) := by decide +kernel
theorem dL_isHeld_92 : decode cL_isHeld 92 = .ok (.iconst 1, 1) := by decide +kernel
theorem dL_isHeld_93 : decode cL_isHeld 93 = .ok (.goto 4, 3) := by decide +kernel
theorem dL_isHeld_96 : decode cL_isHeld 96 = .ok (.iconst 0, 1) := by decide +kernel
theorem dL_isHeld_97 : decode cL_isHeld 97 = .ok (.istore 4, 2) := by decide +kernel
theorem dL_isHeld_99 : decode cL_isHeld 99 = .ok (.iload 4, 2) := by decide +kernel
theorem dL_isHeld_101 : decode cL_isHeld 101 = .ok (.ifCond .eq 47, 3) := by decide +kernel
theorem dL_isHeld_104 : decode cL_isHeld 104 = .ok (.aload_n 0, 1) := by decide +kernel
theorem dL_isHeld_105 : decode cL_isHeld 105 = .ok (.invokevirtual 41, 3) := by decide +kernel
theorem dL_isHeld_108 : decode cL_isHeld 108 = .ok (.iload_n 3, 1) := by decide +kernel
theorem dL_isHeld_109 : decode cL_isHeld 109 = .ok (.iload_n 1, 1) := by decide +kernel
theorem dL_isHeld_110 : decode cL_isHeld 110 = .ok (.if_icmp .ge 11, 3) := by decide +kernel
theorem dL_isHeld_113 : decode cL_isHeld 113 = .ok (.iload_n 1, 1) := by decide +kernel
theorem dL_isHeld_114 : decode cL_isHeld 114 = .ok (.iload_n 3, 1) := by decide +kernel
theorem dL_isHeld_115 : decode cL_isHeld 115 = .ok (.isub, 1) := by decide +kernel
theorem dL_isHeld_116 : decode cL_isHeld 116 = .ok (.iconst 1, 1) := by decide +kernel
theorem dL_isHeld_117 : decode cL_isHeld 117 = .ok (.iadd, 1) := by decide +kernel
theorem dL_isHeld_118 : decode cL_isHeld 118 = .ok (.goto 4, 3) := by decide +kernel
theorem dL_isHeld_121 : decode cL_isHeld 121 = .ok (.iconst 1, 1) := by decide +kernel
theorem dL_isHeld_122 : decode cL_isHeld 122 = .ok (.if_icmp .ne 26, 3) := by decide +kernel
theorem dL_isHeld_125 : decode cL_isHeld 125 = .ok (.aload_n 0, 1) := by decide +kernel
theorem dL_isHeld_126 : decode cL_isHeld 126 = .ok (.iconst 3, 1) := by decide +kernel
theorem dL_isHeld_127 : decode cL_isHeld 127 = .ok (.invokevirtual 15, 3) := by decide +kernel
theorem dL_isHeld_130 : decode cL_isHeld 130 = .ok (.iconst 3, 1) := by decide +kernel
theorem dL_isHeld_131 : decode cL_isHeld 131 = .ok (.if_icmp .ne 17, 3) := by decide +kernel
theorem dL_isHeld_134 : decode cL_isHeld 134 = .ok (.aload_n 0, 1) := by decide +kernel
theorem dL_isHeld_135 : decode cL_isHeld 135 = .ok (.iconst 0, 1) := by decide +kernel
theorem dL_isHeld_136 : decode cL_isHeld 136 = .ok (.invokevirtual 68, 3) := by decide +kernel
theorem dL_isHeld_139 : decode cL_isHeld 139 = .ok (.bipush (-2), 2) := by decide +kernel
theorem dL_isHeld_141 : decode cL_isHeld 141 = .ok (.if_icmp .ne 7, 3) := by decide +kernel
theorem dL_isHeld_144 : decode cL_isHeld 144 = .ok (.iconst 1, 1) := by decide +kernel
theorem dL_isHeld_145 : decode cL_isHeld 145 = .ok (.goto 4, 3) := by decide +kernel
theorem dL_isHeld_148 : decode cL_isHeld 148 = .ok (.iconst 0, 1) := by decide +kernel
theorem dL_isHeld_149 : decode cL_isHeld 149 = .ok (.istore 4, 2) := by decide +kernel
theorem dL_isHeld_151 : decode cL_isHeld 151 = .ok (.iload 4, 2) := by decide +kernel
theorem dL_isHeld_153 : decode cL_isHeld 153 = .ok (.ifCond .eq 68, 3) := by decide +kernel
theorem dL_isHeld_156 : decode cL_isHeld 156 = .ok (.aload_n 0, 1) := by decide +kernel
theorem dL_isHeld_157 : decode cL_isHeld 157 = .ok (.iload_n 2, 1) := by decide +kernel
theorem dL_isHeld_158 : decode cL_isHeld 158 = .ok (.bipush 10, 2) := by decide +kernel
theorem dL_isHeld_160 : decode cL_isHeld 160 = .ok (.irem, 1) := by decide +kernel
theorem dL_isHeld_161 : decode cL_isHeld 161 = .ok (.invokevirtual 71, 3) := by decide +kernel
theorem dL_isHeld_164 : decode cL_isHeld 164 = .ok (.ifCond .ne 57, 3) := by decide +kernel
theorem dL_isHeld_167 : decode cL_isHeld 167 = .ok (.aload_n 0, 1) := by decide +kernel
theorem dL_isHeld_168 : decode cL_isHeld 168 = .ok (.iconst 3, 1) := by decide +kernel
theorem dL_isHeld_169 : decode cL_isHeld 169 = .ok (.invokevirtual 15, 3) := by decide +kernel
theorem dL_isHeld_172 : decode cL_isHeld 172 = .ok (.iconst 4, 1) := by decide +kernel
theorem dL_isHeld_173 : decode cL_isHeld 173 = .ok (.if_icmp .ne 48, 3) := by decide +kernel
theorem dL_isHeld_176 : decode cL_isHeld 176 = .ok (.aload_n 0, 1) := by decide +kernel
theorem dL_isHeld_177 : decode cL_isHeld 177 = .ok (.invokevirtual 41, 3) := by decide +kernel
theorem dL_isHeld_180 : decode cL_isHeld 180 = .ok (.iload_n 1, 1) := by decide +kernel
theorem dL_isHeld_181 : decode cL_isHeld 181 = .ok (.if_icmp .ne 40, 3) := by decide +kernel
theorem dL_isHeld_184 : decode cL_isHeld 184 = .ok (.aload_n 0, 1) := by decide +kernel
theorem dL_isHeld_185 : decode cL_isHeld 185 = .ok (.invokevirtual 74, 3) := by decide +kernel
theorem dL_isHeld_188 : decode cL_isHeld 188 = .ok (.ifCond .lt 33, 3) := by decide +kernel
theorem dL_isHeld_191 : decode cL_isHeld 191 = .ok (.aload_n 0, 1) := by decide +kernel
theorem dL_isHeld_192 : decode cL_isHeld 192 = .ok (.bipush 7, 2) := by decide +kernel
theorem dL_isHeld_194 : decode cL_isHeld 194 = .ok (.invokevirtual 9, 3) := by decide +kernel
theorem dL_isHeld_197 : decode cL_isHeld 197 = .ok (.iconst 1, 1) := by decide +kernel
theorem dL_isHeld_198 : decode cL_isHeld 198 = .ok (.if_icmp .ne 23, 3) := by decide +kernel
theorem dL_isHeld_201 : decode cL_isHeld 201 = .ok (.aload_n 0, 1) := by decide +kernel
theorem dL_isHeld_202 : decode cL_isHeld 202 = .ok (.invokevirtual 74, 3) := by decide +kernel
theorem dL_isHeld_205 : decode cL_isHeld 205 = .ok (.ifCond .lt 16, 3) := by decide +kernel
theorem dL_isHeld_208 : decode cL_isHeld 208 = .ok (.aload_n 0, 1) := by decide +kernel
theorem dL_isHeld_209 : decode cL_isHeld 209 = .ok (.bipush 7, 2) := by decide +kernel
theorem dL_isHeld_211 : decode cL_isHeld 211 = .ok (.invokevirtual 9, 3) := by decide +kernel
theorem dL_isHeld_214 : decode cL_isHeld 214 = .ok (.ifCond .ne 7, 3) := by decide +kernel
theorem dL_isHeld_217 : decode cL_isHeld 217 = .ok (.iconst 1, 1) := by decide +kernel
theorem dL_isHeld_218 : decode cL_isHeld 218 = .ok (.goto 4, 3) := by decide +kernel
theorem dL_isHeld_221 : decode cL_isHeld 221 = .ok (.iconst 0, 1) := by decide +kernel
theorem dL_isHeld_222 : decode cL_isHeld 222 = .ok (.istore 4, 2) := by decide +kernel
theorem dL_isHeld_224 : decode cL_isHeld 224 = .ok (.iload 4, 2) := by decide +kernel
theorem dL_isHeld_226 : decode cL_isHeld 226 = .ok (.ifCond .eq 24, 3) := by decide +kernel
theorem dL_isHeld_229 : decode cL_isHeld 229 = .ok (.aload_n 0, 1) := by decide +kernel
theorem dL_isHeld_230 : decode cL_isHeld 230 = .ok (.invokevirtual 74, 3) := by decide +kernel
theorem dL_isHeld_233 : decode cL_isHeld 233 = .ok (.ifCond .lt 17, 3) := by decide +kernel
theorem dL_isHeld_236 : decode cL_isHeld 236 = .ok (.aload_n 0, 1) := by decide +kernel
theorem dL_isHeld_237 : decode cL_isHeld 237 = .ok (.bipush 14, 2) := by decide +kernel
theorem dL_isHeld_239 : decode cL_isHeld 239 = .ok (.invokevirtual 9, 3) := by decide +kernel
theorem dL_isHeld_242 : decode cL_isHeld 242 = .ok (.iconst 4, 1) := by decide +kernel
theorem dL_isHeld_243 : decode cL_isHeld 243 = .ok (.if_icmp .ne 7, 3) := by decide +kernel
theorem dL_isHeld_246 : decode cL_isHeld 246 = .ok (.iconst 1, 1) := by decide +kernel
theorem dL_isHeld_247 : decode cL_isHeld 247 = .ok (.goto 4, 3) := by decide +kernel
theorem dL_isHeld_250 : decode cL_isHeld 250 = .ok (.iconst 0, 1) := by decide +kernel
theorem dL_isHeld_251 : decode cL_isHeld 251 = .ok (.ireturn, 1) := by decide +kernel
theorem dL_law_0 : decode cL_law 0 = .ok (.new 10, 3) := by decide +kernel
theorem dL_law_3 : decode cL_law 3 = .ok (.dup, 1) := by decide +kernel
theorem dL_law_4 : decode cL_law 4 = .ok (.invokespecial 77, 3) := by decide +kernel
theorem dL_law_7 : decode cL_law 7 = .ok (.astore_n 1, 1) := by decide +kernel
theorem dL_law_8 : decode cL_law 8 = .ok (.aload_n 0, 1) := by decide +kernel
theorem dL_law_9 : decode cL_law 9 = .ok (.iconst 0, 1) := by decide +kernel
theorem dL_law_10 : decode cL_law 10 = .ok (.invokestatic 78, 3) := by decide +kernel
theorem dL_law_13 : decode cL_law 13 = .ok (.istore_n 2, 1) := by decide +kernel
theorem dL_law_14 : decode cL_law 14 = .ok (.iload_n 2, 1) := by decide +kernel
theorem dL_law_15 : decode cL_law 15 = .ok (.iconst 3, 1) := by decide +kernel
theorem dL_law_16 : decode cL_law 16 = .ok (.irem, 1) := by decide +kernel
theorem dL_law_17 : decode cL_law 17 = .ok (.istore_n 3, 1) := by decide +kernel
theorem dL_law_18 : decode cL_law 18 = .ok (.iload_n 2, 1) := by decide +kernel
theorem dL_law_19 : decode cL_law 19 = .ok (.iconst 3, 1) := by decide +kernel
theorem dL_law_20 : decode cL_law 20 = .ok (.ishr, 1) := by decide +kernel
theorem dL_law_21 : decode cL_law 21 = .ok (.iconst 3, 1) := by decide +kernel
theorem dL_law_22 : decode cL_law 22 = .ok (.irem, 1) := by decide +kernel
theorem dL_law_23 : decode cL_law 23 = .ok (.istore 4, 2) := by decide +kernel
theorem dL_law_25 : decode cL_law 25 = .ok (.iconst 1, 1) := by decide +kernel
theorem dL_law_26 : decode cL_law 26 = .ok (.iload_n 3, 1) := by decide +kernel
theorem dL_law_27 : decode cL_law 27 = .ok (.ishl, 1) := by decide +kernel
theorem dL_law_28 : decode cL_law 28 = .ok (.istore 5, 2) := by decide +kernel
theorem dL_law_30 : decode cL_law 30 = .ok (.iconst 1, 1) := by decide +kernel
theorem dL_law_31 : decode cL_law 31 = .ok (.iload 4, 2) := by decide +kernel
theorem dL_law_33 : decode cL_law 33 = .ok (.ishl, 1) := by decide +kernel
theorem dL_law_34 : decode cL_law 34 = .ok (.istore 6, 2) := by decide +kernel
theorem dL_law_36 : decode cL_law 36 = .ok (.iload 5, 2) := by decide +kernel
theorem dL_law_38 : decode cL_law 38 = .ok (.iload 6, 2) := by decide +kernel
theorem dL_law_40 : decode cL_law 40 = .ok (.imul, 1) := by decide +kernel
theorem dL_law_41 : decode cL_law 41 = .ok (.istore 7, 2) := by decide +kernel
theorem dL_law_43 : decode cL_law 43 = .ok (.aload_n 0, 1) := by decide +kernel
theorem dL_law_44 : decode cL_law 44 = .ok (.iconst 1, 1) := by decide +kernel
theorem dL_law_45 : decode cL_law 45 = .ok (.invokestatic 78, 3) := by decide +kernel
theorem dL_law_48 : decode cL_law 48 = .ok (.sipush 256, 3) := by decide +kernel
theorem dL_law_51 : decode cL_law 51 = .ok (.irem, 1) := by decide +kernel
theorem dL_law_52 : decode cL_law 52 = .ok (.iload_n 3, 1) := by decide +kernel
theorem dL_law_53 : decode cL_law 53 = .ok (.iload 4, 2) := by decide +kernel
theorem dL_law_55 : decode cL_law 55 = .ok (.invokestatic 82, 3) := by decide +kernel
theorem dL_law_58 : decode cL_law 58 = .ok (.istore 8, 2) := by decide +kernel
theorem dL_law_60 : decode cL_law 60 = .ok (.aload_n 1, 1) := by decide +kernel
theorem dL_law_61 : decode cL_law 61 = .ok (.iload 5, 2) := by decide +kernel
theorem dL_law_63 : decode cL_law 63 = .ok (.iload 6, 2) := by decide +kernel
theorem dL_law_65 : decode cL_law 65 = .ok (.invokevirtual 86, 3) := by decide +kernel
theorem dL_law_68 : decode cL_law 68 = .ok (.iload 7, 2) := by decide +kernel
theorem dL_law_70 : decode cL_law 70 = .ok (.if_icmp .ne 30, 3) := by decide +kernel
theorem dL_law_73 : decode cL_law 73 = .ok (.aload_n 1, 1) := by decide +kernel
theorem dL_law_74 : decode cL_law 74 = .ok (.iload_n 2, 1) := by decide +kernel
theorem dL_law_75 : decode cL_law 75 = .ok (.bipush 7, 2) := by decide +kernel
theorem dL_law_77 : decode cL_law 77 = .ok (.ishr, 1) := by decide +kernel
theorem dL_law_78 : decode cL_law 78 = .ok (.iconst 2, 1) := by decide +kernel
theorem dL_law_79 : decode cL_law 79 = .ok (.irem, 1) := by decide +kernel
theorem dL_law_80 : decode cL_law 80 = .ok (.invokevirtual 68, 3) := by decide +kernel
theorem dL_law_83 : decode cL_law 83 = .ok (.ifCond .ne 17, 3) := by decide +kernel
theorem dL_law_86 : decode cL_law 86 = .ok (.aload_n 1, 1) := by decide +kernel
theorem dL_law_87 : decode cL_law 87 = .ok (.iconst 3, 1) := by decide +kernel
theorem dL_law_88 : decode cL_law 88 = .ok (.iconst 1, 1) := by decide +kernel
theorem dL_law_89 : decode cL_law 89 = .ok (.invokevirtual 86, 3) := by decide +kernel
theorem dL_law_92 : decode cL_law 92 = .ok (.iconst (-1), 1) := by decide +kernel
theorem dL_law_93 : decode cL_law 93 = .ok (.if_icmp .ne 7, 3) := by decide +kernel
theorem dL_law_96 : decode cL_law 96 = .ok (.iconst 1, 1) := by decide +kernel
theorem dL_law_97 : decode cL_law 97 = .ok (.goto 4, 3) := by decide +kernel
theorem dL_law_100 : decode cL_law 100 = .ok (.iconst 0, 1) := by decide +kernel
theorem dL_law_101 : decode cL_law 101 = .ok (.istore 9, 2) := by decide +kernel
theorem dL_law_103 : decode cL_law 103 = .ok (.iload 9, 2) := by decide +kernel
theorem dL_law_105 : decode cL_law 105 = .ok (.ifCond .eq 54, 3) := by decide +kernel
theorem dL_law_108 : decode cL_law 108 = .ok (.aload_n 1, 1) := by decide +kernel
theorem dL_law_109 : decode cL_law 109 = .ok (.iload 8, 2) := by decide +kernel
theorem dL_law_111 : decode cL_law 111 = .ok (.invokevirtual 59, 3) := by decide +kernel
theorem dL_law_114 : decode cL_law 114 = .ok (.iconst 2, 1) := by decide +kernel
theorem dL_law_115 : decode cL_law 115 = .ok (.iload 7, 2) := by decide +kernel
theorem dL_law_117 : decode cL_law 117 = .ok (.imul, 1) := by decide +kernel
theorem dL_law_118 : decode cL_law 118 = .ok (.if_icmp .ne 41, 3) := by decide +kernel
theorem dL_law_121 : decode cL_law 121 = .ok (.aload_n 1, 1) := by decide +kernel
theorem dL_law_122 : decode cL_law 122 = .ok (.iload 8, 2) := by decide +kernel
theorem dL_law_124 : decode cL_law 124 = .ok (.invokevirtual 59, 3) := by decide +kernel
theorem dL_law_127 : decode cL_law 127 = .ok (.ifCond .ne 32, 3) := by decide +kernel
theorem dL_law_130 : decode cL_law 130 = .ok (.aload_n 1, 1) := by decide +kernel
theorem dL_law_131 : decode cL_law 131 = .ok (.iconst 1, 1) := by decide +kernel
theorem dL_law_132 : decode cL_law 132 = .ok (.invokevirtual 15, 3) := by decide +kernel
theorem dL_law_135 : decode cL_law 135 = .ok (.iconst 2, 1) := by decide +kernel
theorem dL_law_136 : decode cL_law 136 = .ok (.iload 7, 2) := by decide +kernel
theorem dL_law_138 : decode cL_law 138 = .ok (.imul, 1) := by decide +kernel
theorem dL_law_139 : decode cL_law 139 = .ok (.if_icmp .ne 20, 3) := by decide +kernel
theorem dL_law_142 : decode cL_law 142 = .ok (.aload_n 1, 1) := by decide +kernel
theorem dL_law_143 : decode cL_law 143 = .ok (.iload 8, 2) := by decide +kernel
theorem dL_law_145 : decode cL_law 145 = .ok (.invokevirtual 89, 3) := by decide +kernel
theorem dL_law_148 : decode cL_law 148 = .ok (.iconst 2, 1) := by decide +kernel
theorem dL_law_149 : decode cL_law 149 = .ok (.iload 7, 2) := by decide +kernel
theorem dL_law_151 : decode cL_law 151 = .ok (.imul, 1) := by decide +kernel
theorem dL_law_152 : decode cL_law 152 = .ok (.if_icmp .ne 7, 3) := by decide +kernel
theorem dL_law_155 : decode cL_law 155 = .ok (.iconst 1, 1) := by decide +kernel
theorem dL_law_156 : decode cL_law 156 = .ok (.goto 4, 3) := by decide +kernel
theorem dL_law_159 : decode cL_law 159 = .ok (.iconst 0, 1) := by decide +kernel
theorem dL_law_160 : decode cL_law 160 = .ok (.istore 9, 2) := by decide +kernel
theorem dL_law_162 : decode cL_law 162 = .ok (.aload_n 0, 1) := by decide +kernel
theorem dL_law_163 : decode cL_law 163 = .ok (.iconst 2, 1) := by decide +kernel
theorem dL_law_164 : decode cL_law 164 = .ok (.invokestatic 78, 3) := by decide +kernel
theorem dL_law_167 : decode cL_law 167 = .ok (.istore 10, 2) := by decide +kernel
theorem dL_law_169 : decode cL_law 169 = .ok (.iconst 0, 1) := by decide +kernel
theorem dL_law_170 : decode cL_law 170 = .ok (.istore 11, 2) := by decide +kernel
theorem dL_law_172 : decode cL_law 172 = .ok (.iload 11, 2) := by decide +kernel
theorem dL_law_174 : decode cL_law 174 = .ok (.bipush 8, 2) := by decide +kernel
theorem dL_law_176 : decode cL_law 176 = .ok (.if_icmp .ge 53, 3) := by decide +kernel
theorem dL_law_179 : decode cL_law 179 = .ok (.iload 9, 2) := by decide +kernel
theorem dL_law_181 : decode cL_law 181 = .ok (.ifCond .eq 48, 3) := by decide +kernel
theorem dL_law_184 : decode cL_law 184 = .ok (.aload_n 1, 1) := by decide +kernel
theorem dL_law_185 : decode cL_law 185 = .ok (.iload 10, 2) := by decide +kernel
theorem dL_law_187 : decode cL_law 187 = .ok (.iload 11, 2) := by decide +kernel
theorem dL_law_189 : decode cL_law 189 = .ok (.ishr, 1) := by decide +kernel
theorem dL_law_190 : decode cL_law 190 = .ok (.iconst 2, 1) := by decide +kernel
theorem dL_law_191 : decode cL_law 191 = .ok (.iload 7, 2) := by decide +kernel
theorem dL_law_193 : decode cL_law 193 = .ok (.imul, 1) := by decide +kernel
theorem dL_law_194 : decode cL_law 194 = .ok (.irem, 1) := by decide +kernel
theorem dL_law_195 : decode cL_law 195 = .ok (.iload 10, 2) := by decide +kernel
theorem dL_law_197 : decode cL_law 197 = .ok (.iload 11, 2) := by decide +kernel
theorem dL_law_199 : decode cL_law 199 = .ok (.ishr, 1) := by decide +kernel
theorem dL_law_200 : decode cL_law 200 = .ok (.iconst 2, 1) := by decide +kernel
theorem dL_law_201 : decode cL_law 201 = .ok (.iload 7, 2) := by decide +kernel
theorem dL_law_203 : decode cL_law 203 = .ok (.imul, 1) := by decide +kernel
theorem dL_law_204 : decode cL_law 204 = .ok (.irem, 1) := by decide +kernel
theorem dL_law_205 : decode cL_law 205 = .ok (.iconst 0, 1) := by decide +kernel
theorem dL_law_206 : decode cL_law 206 = .ok (.invokevirtual 92, 3) := by decide +kernel
theorem dL_law_209 : decode cL_law 209 = .ok (.iload 11, 2) := by decide +kernel
theorem dL_law_211 : decode cL_law 211 = .ok (.iconst 1, 1) := by decide +kernel
theorem dL_law_212 : decode cL_law 212 = .ok (.iadd, 1) := by decide +kernel
theorem dL_law_213 : decode cL_law 213 = .ok (.if_icmp .ne 7, 3) := by decide +kernel
theorem dL_law_216 : decode cL_law 216 = .ok (.iconst 1, 1) := by decide +kernel
theorem dL_law_217 : decode cL_law 217 = .ok (.goto 4, 3) := by decide +kernel
theorem dL_law_220 : decode cL_law 220 = .ok (.iconst 0, 1) := by decide +kernel
theorem dL_law_221 : decode cL_law 221 = .ok (.istore 9, 2) := by decide +kernel
theorem dL_law_223 : decode cL_law 223 = .ok (.iinc 11 1, 3) := by decide +kernel
theorem dL_law_226 : decode cL_law 226 = .ok (.goto (-54), 3) := by decide +kernel
theorem dL_law_229 : decode cL_law 229 = .ok (.iload 9, 2) := by decide +kernel
theorem dL_law_231 : decode cL_law 231 = .ok (.ifCond .eq 48, 3) := by decide +kernel
theorem dL_law_234 : decode cL_law 234 = .ok (.aload_n 1, 1) := by decide +kernel
theorem dL_law_235 : decode cL_law 235 = .ok (.iconst 0, 1) := by decide +kernel
theorem dL_law_236 : decode cL_law 236 = .ok (.iconst 0, 1) := by decide +kernel
theorem dL_law_237 : decode cL_law 237 = .ok (.iconst 0, 1) := by decide +kernel
theorem dL_law_238 : decode cL_law 238 = .ok (.invokevirtual 92, 3) := by decide +kernel
theorem dL_law_241 : decode cL_law 241 = .ok (.bipush (-3), 2) := by decide +kernel
theorem dL_law_243 : decode cL_law 243 = .ok (.if_icmp .ne 36, 3) := by decide +kernel
theorem dL_law_246 : decode cL_law 246 = .ok (.aload_n 1, 1) := by decide +kernel
theorem dL_law_247 : decode cL_law 247 = .ok (.iconst 0, 1) := by decide +kernel
theorem dL_law_248 : decode cL_law 248 = .ok (.invokevirtual 95, 3) := by decide +kernel
theorem dL_law_251 : decode cL_law 251 = .ok (.iconst 1, 1) := by decide +kernel
theorem dL_law_252 : decode cL_law 252 = .ok (.if_icmp .lt 27, 3) := by decide +kernel
theorem dL_law_255 : decode cL_law 255 = .ok (.aload_n 1, 1) := by decide +kernel
theorem dL_law_256 : decode cL_law 256 = .ok (.iconst 1, 1) := by decide +kernel
theorem dL_law_257 : decode cL_law 257 = .ok (.invokevirtual 95, 3) := by decide +kernel
theorem dL_law_260 : decode cL_law 260 = .ok (.iload 8, 2) := by decide +kernel
theorem dL_law_262 : decode cL_law 262 = .ok (.if_icmp .gt 17, 3) := by decide +kernel
theorem dL_law_265 : decode cL_law 265 = .ok (.aload_n 1, 1) := by decide +kernel
theorem dL_law_266 : decode cL_law 266 = .ok (.iconst 2, 1) := by decide +kernel
theorem dL_law_267 : decode cL_law 267 = .ok (.invokevirtual 95, 3) := by decide +kernel
theorem dL_law_270 : decode cL_law 270 = .ok (.iload 8, 2) := by decide +kernel
theorem dL_law_272 : decode cL_law 272 = .ok (.if_icmp .lt 7, 3) := by decide +kernel
theorem dL_law_275 : decode cL_law 275 = .ok (.iconst 1, 1) := by decide +kernel
theorem dL_law_276 : decode cL_law 276 = .ok (.goto 4, 3) := by decide +kernel
theorem dL_law_279 : decode cL_law 279 = .ok (.iconst 0, 1) := by decide +kernel
theorem dL_law_280 : decode cL_law 280 = .ok (.istore 9, 2) := by decide +kernel
theorem dL_law_282 : decode cL_law 282 = .ok (.aload_n 1, 1) := by decide +kernel
theorem dL_law_283 : decode cL_law 283 = .ok (.iload 8, 2) := by decide +kernel
theorem dL_law_285 : decode cL_law 285 = .ok (.invokevirtual 45, 3) := by decide +kernel
theorem dL_law_288 : decode cL_law 288 = .ok (.invokestatic 51, 3) := by decide +kernel
theorem dL_law_291 : decode cL_law 291 = .ok (.istore 11, 2) := by decide +kernel
theorem dL_law_293 : decode cL_law 293 = .ok (.iload 9, 2) := by decide +kernel
theorem dL_law_295 : decode cL_law 295 = .ok (.ifCond .eq 76, 3) := by decide +kernel
theorem dL_law_298 : decode cL_law 298 = .ok (.aload_n 1, 1) := by decide +kernel
theorem dL_law_299 : decode cL_law 299 = .ok (.iconst 1, 1) := by decide +kernel
theorem dL_law_300 : decode cL_law 300 = .ok (.invokevirtual 98, 3) := by decide +kernel
theorem dL_law_303 : decode cL_law 303 = .ok (.iload 11, 2) := by decide +kernel
theorem dL_law_305 : decode cL_law 305 = .ok (.if_icmp .lt 25, 3) := by decide +kernel
theorem dL_law_308 : decode cL_law 308 = .ok (.aload_n 1, 1) := by decide +kernel
theorem dL_law_309 : decode cL_law 309 = .ok (.iconst 1, 1) := by decide +kernel
theorem dL_law_310 : decode cL_law 310 = .ok (.invokevirtual 98, 3) := by decide +kernel
theorem dL_law_313 : decode cL_law 313 = .ok (.iload 11, 2) := by decide +kernel
theorem dL_law_315 : decode cL_law 315 = .ok (.if_icmp .ne 56, 3) := by decide +kernel
theorem dL_law_318 : decode cL_law 318 = .ok (.aload_n 1, 1) := by decide +kernel
theorem dL_law_319 : decode cL_law 319 = .ok (.iconst 2, 1) := by decide +kernel
theorem dL_law_320 : decode cL_law 320 = .ok (.invokevirtual 98, 3) := by decide +kernel
theorem dL_law_323 : decode cL_law 323 = .ok (.iconst 2, 1) := by decide +kernel
theorem dL_law_324 : decode cL_law 324 = .ok (.iload 7, 2) := by decide +kernel
theorem dL_law_326 : decode cL_law 326 = .ok (.imul, 1) := by decide +kernel
theorem dL_law_327 : decode cL_law 327 = .ok (.if_icmp .lt 44, 3) := by decide +kernel
theorem dL_law_330 : decode cL_law 330 = .ok (.aload_n 1, 1) := by decide +kernel
theorem dL_law_331 : decode cL_law 331 = .ok (.aload_n 1, 1) := by decide +kernel
theorem dL_law_332 : decode cL_law 332 = .ok (.iconst 0, 1) := by decide +kernel
theorem dL_law_333 : decode cL_law 333 = .ok (.invokevirtual 98, 3) := by decide +kernel
theorem dL_law_336 : decode cL_law 336 = .ok (.invokevirtual 89, 3) := by decide +kernel
theorem dL_law_339 : decode cL_law 339 = .ok (.aload_n 1, 1) := by decide +kernel
theorem dL_law_340 : decode cL_law 340 = .ok (.iconst 2, 1) := by decide +kernel
theorem dL_law_341 : decode cL_law 341 = .ok (.invokevirtual 98, 3) := by decide +kernel
theorem dL_law_344 : decode cL_law 344 = .ok (.if_icmp .ne 27, 3) := by decide +kernel
theorem dL_law_347 : decode cL_law 347 = .ok (.aload_n 1, 1) := by decide +kernel
theorem dL_law_348 : decode cL_law 348 = .ok (.aload_n 1, 1) := by decide +kernel
theorem dL_law_349 : decode cL_law 349 = .ok (.iconst 0, 1) := by decide +kernel
theorem dL_law_350 : decode cL_law 350 = .ok (.invokevirtual 98, 3) := by decide +kernel
theorem dL_law_353 : decode cL_law 353 = .ok (.invokevirtual 45, 3) := by decide +kernel
theorem dL_law_356 : decode cL_law 356 = .ok (.invokestatic 51, 3) := by decide +kernel
theorem dL_law_359 : decode cL_law 359 = .ok (.aload_n 1, 1) := by decide +kernel
theorem dL_law_360 : decode cL_law 360 = .ok (.iconst 1, 1) := by decide +kernel
theorem dL_law_361 : decode cL_law 361 = .ok (.invokevirtual 98, 3) := by decide +kernel
theorem dL_law_364 : decode cL_law 364 = .ok (.if_icmp .ne 7, 3) := by decide +kernel
theorem dL_law_367 : decode cL_law 367 = .ok (.iconst 1, 1) := by decide +kernel
theorem dL_law_368 : decode cL_law 368 = .ok (.goto 4, 3) := by decide +kernel
theorem dL_law_371 : decode cL_law 371 = .ok (.iconst 0, 1) := by decide +kernel
theorem dL_law_372 : decode cL_law 372 = .ok (.istore 9, 2) := by decide +kernel
theorem dL_law_374 : decode cL_law 374 = .ok (.iload 9, 2) := by decide +kernel
theorem dL_law_376 : decode cL_law 376 = .ok (.ifCond .eq 76, 3) := by decide +kernel
theorem dL_law_379 : decode cL_law 379 = .ok (.aload_n 1, 1) := by decide +kernel
theorem dL_law_380 : decode cL_law 380 = .ok (.iconst 1, 1) := by decide +kernel
theorem dL_law_381 : decode cL_law 381 = .ok (.invokevirtual 101, 3) := by decide +kernel
theorem dL_law_384 : decode cL_law 384 = .ok (.ifCond .ne 68, 3) := by decide +kernel
theorem dL_law_387 : decode cL_law 387 = .ok (.aload_n 1, 1) := by decide +kernel
theorem dL_law_388 : decode cL_law 388 = .ok (.iload 8, 2) := by decide +kernel
theorem dL_law_390 : decode cL_law 390 = .ok (.iload_n 3, 1) := by decide +kernel
theorem dL_law_391 : decode cL_law 391 = .ok (.iload 4, 2) := by decide +kernel
theorem dL_law_393 : decode cL_law 393 = .ok (.iadd, 1) := by decide +kernel
theorem dL_law_394 : decode cL_law 394 = .ok (.invokestatic 104, 3) := by decide +kernel
theorem dL_law_397 : decode cL_law 397 = .ok (.ifCond .eq 55, 3) := by decide +kernel
theorem dL_law_400 : decode cL_law 400 = .ok (.aload_n 1, 1) := by decide +kernel
theorem dL_law_401 : decode cL_law 401 = .ok (.iconst 0, 1) := by decide +kernel
theorem dL_law_402 : decode cL_law 402 = .ok (.invokevirtual 15, 3) := by decide +kernel
theorem dL_law_405 : decode cL_law 405 = .ok (.iload 7, 2) := by decide +kernel
theorem dL_law_407 : decode cL_law 407 = .ok (.iconst 1, 1) := by decide +kernel
theorem dL_law_408 : decode cL_law 408 = .ok (.isub, 1) := by decide +kernel
theorem dL_law_409 : decode cL_law 409 = .ok (.if_icmp .ne 43, 3) := by decide +kernel
theorem dL_law_412 : decode cL_law 412 = .ok (.aload_n 1, 1) := by decide +kernel
theorem dL_law_413 : decode cL_law 413 = .ok (.iload 7, 2) := by decide +kernel
theorem dL_law_415 : decode cL_law 415 = .ok (.invokestatic 108, 3) := by decide +kernel
theorem dL_law_418 : decode cL_law 418 = .ok (.ifCond .eq 34, 3) := by decide +kernel
theorem dL_law_421 : decode cL_law 421 = .ok (.aload_n 1, 1) := by decide +kernel
theorem dL_law_422 : decode cL_law 422 = .ok (.iload 8, 2) := by decide +kernel
theorem dL_law_424 : decode cL_law 424 = .ok (.iload 5, 2) := by decide +kernel
theorem dL_law_426 : decode cL_law 426 = .ok (.iload 6, 2) := by decide +kernel
theorem dL_law_428 : decode cL_law 428 = .ok (.invokestatic 112, 3) := by decide +kernel
theorem dL_law_431 : decode cL_law 431 = .ok (.ifCond .eq 21, 3) := by decide +kernel
theorem dL_law_434 : decode cL_law 434 = .ok (.aload_n 1, 1) := by decide +kernel
theorem dL_law_435 : decode cL_law 435 = .ok (.iload 7, 2) := by decide +kernel
theorem dL_law_437 : decode cL_law 437 = .ok (.aload_n 0, 1) := by decide +kernel
theorem dL_law_438 : decode cL_law 438 = .ok (.iconst 3, 1) := by decide +kernel
theorem dL_law_439 : decode cL_law 439 = .ok (.invokestatic 78, 3) := by decide +kernel
theorem dL_law_442 : decode cL_law 442 = .ok (.invokestatic 116, 3) := by decide +kernel
theorem dL_law_445 : decode cL_law 445 = .ok (.ifCond .eq 7, 3) := by decide +kernel
theorem dL_law_448 : decode cL_law 448 = .ok (.iconst 1, 1) := by decide +kernel
theorem dL_law_449 : decode cL_law 449 = .ok (.goto 4, 3) := by decide +kernel
theorem dL_law_452 : decode cL_law 452 = .ok (.iconst 0, 1) := by decide +kernel
theorem dL_law_453 : decode cL_law 453 = .ok (.istore 9, 2) := by decide +kernel
theorem dL_law_455 : decode cL_law 455 = .ok (.iload 9, 2) := by decide +kernel
theorem dL_law_457 : decode cL_law 457 = .ok (.ifCond .eq 58, 3) := by decide +kernel
theorem dL_law_460 : decode cL_law 460 = .ok (.aload_n 1, 1) := by decide +kernel
theorem dL_law_461 : decode cL_law 461 = .ok (.iconst 1, 1) := by decide +kernel
theorem dL_law_462 : decode cL_law 462 = .ok (.invokevirtual 119, 3) := by decide +kernel
theorem dL_law_465 : decode cL_law 465 = .ok (.ifCond .ne 50, 3) := by decide +kernel
theorem dL_law_468 : decode cL_law 468 = .ok (.aload_n 1, 1) := by decide +kernel
theorem dL_law_469 : decode cL_law 469 = .ok (.bipush 6, 2) := by decide +kernel
theorem dL_law_471 : decode cL_law 471 = .ok (.invokevirtual 9, 3) := by decide +kernel
theorem dL_law_474 : decode cL_law 474 = .ok (.ifCond .ne 41, 3) := by decide +kernel
theorem dL_law_477 : decode cL_law 477 = .ok (.aload_n 1, 1) := by decide +kernel
theorem dL_law_478 : decode cL_law 478 = .ok (.iconst 2, 1) := by decide +kernel
theorem dL_law_479 : decode cL_law 479 = .ok (.invokevirtual 9, 3) := by decide +kernel
theorem dL_law_482 : decode cL_law 482 = .ok (.ifCond .ne 33, 3) := by decide +kernel
theorem dL_law_485 : decode cL_law 485 = .ok (.aload_n 1, 1) := by decide +kernel
theorem dL_law_486 : decode cL_law 486 = .ok (.iconst 0, 1) := by decide +kernel
theorem dL_law_487 : decode cL_law 487 = .ok (.invokevirtual 15, 3) := by decide +kernel
theorem dL_law_490 : decode cL_law 490 = .ok (.ifCond .ne 25, 3) := by decide +kernel
theorem dL_law_493 : decode cL_law 493 = .ok (.aload_n 1, 1) := by decide +kernel
theorem dL_law_494 : decode cL_law 494 = .ok (.invokevirtual 122, 3) := by decide +kernel
theorem dL_law_497 : decode cL_law 497 = .ok (.bipush 8, 2) := by decide +kernel
theorem dL_law_499 : decode cL_law 499 = .ok (.if_icmp .ne 16, 3) := by decide +kernel
theorem dL_law_502 : decode cL_law 502 = .ok (.aload_n 1, 1) := by decide +kernel
theorem dL_law_503 : decode cL_law 503 = .ok (.iconst 0, 1) := by decide +kernel
theorem dL_law_504 : decode cL_law 504 = .ok (.invokevirtual 95, 3) := by decide +kernel
theorem dL_law_507 : decode cL_law 507 = .ok (.iconst 1, 1) := by decide +kernel
theorem dL_law_508 : decode cL_law 508 = .ok (.if_icmp .lt 7, 3) := by decide +kernel
theorem dL_law_511 : decode cL_law 511 = .ok (.iconst 1, 1) := by decide +kernel
theorem dL_law_512 : decode cL_law 512 = .ok (.goto 4, 3) := by decide +kernel
theorem dL_law_515 : decode cL_law 515 = .ok (.iconst 0, 1) := by decide +kernel
theorem dL_law_516 : decode cL_law 516 = .ok (.ireturn, 1) := by decide +kernel
