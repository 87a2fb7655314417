theorem dX10_init_0 : decode cX10_init 0 = .ok (.aload_n 0, 1) := by decide +kernel
theorem dX10_init_1 : decode cX10_init 1 = .ok (.invokespecial 1, 3) := by decide +kernel
theorem dX10_init_4 : decode cX10_init 4 = .ok (.aload_n 0, 1) := by decide +kernel
theorem dX10_init_5 : decode cX10_init 5 = .ok (.sipush 464, 3) := by decide +kernel
theorem dX10_init_8 : decode cX10_init 8 = .ok (.newarray .int, 2) := by decide +kernel
theorem dX10_init_10 : decode cX10_init 10 = .ok (.putfield 7, 3) := by decide +kernel
theorem dX10_init_13 : decode cX10_init 13 = .ok (.aload_n 0, 1) := by decide +kernel
theorem dX10_init_14 : decode cX10_init 14 = .ok (.sipush 2320, 3) := by decide +kernel
theorem dX10_init_17 : decode cX10_init 17 = .ok (.newarray .int, 2) := by decide +kernel
theorem dX10_init_19 : decode cX10_init 19 = .ok (.putfield 13, 3) := by decide +kernel
theorem dX10_init_22 : decode cX10_init 22 = .ok (.aload_n 0, 1) := by decide +kernel
theorem dX10_init_23 : decode cX10_init 23 = .ok (.sipush 464, 3) := by decide +kernel
theorem dX10_init_26 : decode cX10_init 26 = .ok (.newarray .int, 2) := by decide +kernel
theorem dX10_init_28 : decode cX10_init 28 = .ok (.putfield 16, 3) := by decide +kernel
theorem dX10_init_31 : decode cX10_init 31 = .ok (.aload_n 0, 1) := by decide +kernel
theorem dX10_init_32 : decode cX10_init 32 = .ok (.bipush 120, 2) := by decide +kernel
theorem dX10_init_34 : decode cX10_init 34 = .ok (.newarray .int, 2) := by decide +kernel
theorem dX10_init_36 : decode cX10_init 36 = .ok (.putfield 19, 3) := by decide +kernel
theorem dX10_init_39 : decode cX10_init 39 = .ok (.aload_n 0, 1) := by decide +kernel
theorem dX10_init_40 : decode cX10_init 40 = .ok (.bipush 16, 2) := by decide +kernel
theorem dX10_init_42 : decode cX10_init 42 = .ok (.newarray .int, 2) := by decide +kernel
theorem dX10_init_44 : decode cX10_init 44 = .ok (.putfield 22, 3) := by decide +kernel
theorem dX10_init_47 : decode cX10_init 47 = .ok (.aload_n 0, 1) := by decide +kernel
theorem dX10_init_48 : decode cX10_init 48 = .ok (.bipush 16, 2) := by decide +kernel
theorem dX10_init_50 : decode cX10_init 50 = .ok (.newarray .int, 2) := by decide +kernel
theorem dX10_init_52 : decode cX10_init 52 = .ok (.putfield 25, 3) := by decide +kernel
theorem dX10_init_55 : decode cX10_init 55 = .ok (.aload_n 0, 1) := by decide +kernel
theorem dX10_init_56 : decode cX10_init 56 = .ok (.bipush 16, 2) := by decide +kernel
theorem dX10_init_58 : decode cX10_init 58 = .ok (.newarray .int, 2) := by decide +kernel
theorem dX10_init_60 : decode cX10_init 60 = .ok (.putfield 28, 3) := by decide +kernel
theorem dX10_init_63 : decode cX10_init 63 = .ok (.aload_n 0, 1) := by decide +kernel
theorem dX10_init_64 : decode cX10_init 64 = .ok (.bipush 16, 2) := by decide +kernel
theorem dX10_init_66 : decode cX10_init 66 = .ok (.newarray .int, 2) := by decide +kernel
theorem dX10_init_68 : decode cX10_init 68 = .ok (.putfield 31, 3) := by decide +kernel
theorem dX10_init_71 : decode cX10_init 71 = .ok (.aload_n 0, 1) := by decide +kernel
theorem dX10_init_72 : decode cX10_init 72 = .ok (.bipush 16, 2) := by decide +kernel
theorem dX10_init_74 : decode cX10_init 74 = .ok (.newarray .int, 2) := by decide +kernel
theorem dX10_init_76 : decode cX10_init 76 = .ok (.putfield 34, 3) := by decide +kernel
theorem dX10_init_79 : decode cX10_init 79 = .ok (.aload_n 0, 1) := by decide +kernel
theorem dX10_init_80 : decode cX10_init 80 = .ok (.bipush 16, 2) := by decide +kernel
theorem dX10_init_82 : decode cX10_init 82 = .ok (.newarray .int, 2) := by decide +kernel
theorem dX10_init_84 : decode cX10_init 84 = .ok (.putfield 37, 3) := by decide +kernel
theorem dX10_init_87 : decode cX10_init 87 = .ok (.aload_n 0, 1) := by decide +kernel
theorem dX10_init_88 : decode cX10_init 88 = .ok (.bipush 16, 2) := by decide +kernel
theorem dX10_init_90 : decode cX10_init 90 = .ok (.newarray .int, 2) := by decide +kernel
theorem dX10_init_92 : decode cX10_init 92 = .ok (.putfield 40, 3) := by decide +kernel
theorem dX10_init_95 : decode cX10_init 95 = .ok (.aload_n 0, 1) := by decide +kernel
theorem dX10_init_96 : decode cX10_init 96 = .ok (.bipush 16, 2) := by decide +kernel
theorem dX10_init_98 : decode cX10_init 98 = .ok (.newarray .int, 2) := by decide +kernel
theorem dX10_init_100 : decode cX10_init 100 = .ok (.putfield 43, 3) := by decide +kernel
theorem dX10_init_103 : decode cX10_init 103 = .ok (.aload_n 0, 1) := by decide +kernel
theorem dX10_init_104 : decode cX10_init 104 = .ok (.iconst 4, 1) := by decide +kernel
theorem dX10_init_105 : decode cX10_init 105 = .ok (.newarray .int, 2) := by decide +kernel
theorem dX10_init_107 : decode cX10_init 107 = .ok (.putfield 46, 3) := by decide +kernel
theorem dX10_init_110 : decode cX10_init 110 = .ok (.aload_n 0, 1) := by decide +kernel
theorem dX10_init_111 : decode cX10_init 111 = .ok (.bipush 16, 2) := by decide +kernel
theorem dX10_init_113 : decode cX10_init 113 = .ok (.newarray .int, 2) := by decide +kernel
theorem dX10_init_115 : decode cX10_init 115 = .ok (.putfield 49, 3) := by decide +kernel
theorem dX10_init_118 : decode cX10_init 118 = .ok (.aload_n 0, 1) := by decide +kernel
theorem dX10_init_119 : decode cX10_init 119 = .ok (.bipush 32, 2) := by decide +kernel
theorem dX10_init_121 : decode cX10_init 121 = .ok (.newarray .int, 2) := by decide +kernel
theorem dX10_init_123 : decode cX10_init 123 = .ok (.putfield 52, 3) := by decide +kernel
theorem dX10_init_126 : decode cX10_init 126 = .ok (.aload_n 0, 1) := by decide +kernel
theorem dX10_init_127 : decode cX10_init 127 = .ok (.bipush 12, 2) := by decide +kernel
theorem dX10_init_129 : decode cX10_init 129 = .ok (.newarray .int, 2) := by decide +kernel
theorem dX10_init_131 : decode cX10_init 131 = .ok (.putfield 55, 3) := by decide +kernel
theorem dX10_init_134 : decode cX10_init 134 = .ok (.aload_n 0, 1) := by decide +kernel
theorem dX10_init_135 : decode cX10_init 135 = .ok (.getfield 7, 3) := by decide +kernel
theorem dX10_init_138 : decode cX10_init 138 = .ok (.iconst 0, 1) := by decide +kernel
theorem dX10_init_139 : decode cX10_init 139 = .ok (.iconst 2, 1) := by decide +kernel
theorem dX10_init_140 : decode cX10_init 140 = .ok (.iastore, 1) := by decide +kernel
theorem dX10_init_141 : decode cX10_init 141 = .ok (.aload_n 0, 1) := by decide +kernel
theorem dX10_init_142 : decode cX10_init 142 = .ok (.getfield 7, 3) := by decide +kernel
theorem dX10_init_145 : decode cX10_init 145 = .ok (.iconst 1, 1) := by decide +kernel
theorem dX10_init_146 : decode cX10_init 146 = .ok (.iconst 4, 1) := by decide +kernel
theorem dX10_init_147 : decode cX10_init 147 = .ok (.iastore, 1) := by decide +kernel
theorem dX10_init_148 : decode cX10_init 148 = .ok (.aload_n 0, 1) := by decide +kernel
theorem dX10_init_149 : decode cX10_init 149 = .ok (.getfield 7, 3) := by decide +kernel
theorem dX10_init_152 : decode cX10_init 152 = .ok (.bipush 10, 2) := by decide +kernel
theorem dX10_init_154 : decode cX10_init 154 = .ok (.iconst 4, 1) := by decide +kernel
theorem dX10_init_155 : decode cX10_init 155 = .ok (.iastore, 1) := by decide +kernel
theorem dX10_init_156 : decode cX10_init 156 = .ok (.aload_n 0, 1) := by decide +kernel
theorem dX10_init_157 : decode cX10_init 157 = .ok (.getfield 7, 3) := by decide +kernel
theorem dX10_init_160 : decode cX10_init 160 = .ok (.bipush 11, 2) := by decide +kernel
theorem dX10_init_162 : decode cX10_init 162 = .ok (.iconst 5, 1) := by decide +kernel
theorem dX10_init_163 : decode cX10_init 163 = .ok (.iastore, 1) := by decide +kernel
theorem dX10_init_164 : decode cX10_init 164 = .ok (.aload_n 0, 1) := by decide +kernel
theorem dX10_init_165 : decode cX10_init 165 = .ok (.invokevirtual 58, 3) := by decide +kernel
theorem dX10_init_168 : decode cX10_init 168 = .ok (.return_, 1) := by decide +kernel
theorem dX10_in_0 : decode cX10_in 0 = .ok (.lload_n 0, 1) := by decide +kernel
theorem dX10_in_1 : decode cX10_in 1 = .ok (.lload_n 2, 1) := by decide +kernel
theorem dX10_in_2 : decode cX10_in 2 = .ok (.lcmp, 1) := by decide +kernel
theorem dX10_in_3 : decode cX10_in 3 = .ok (.ifCond .lt 14, 3) := by decide +kernel
theorem dX10_in_6 : decode cX10_in 6 = .ok (.lload_n 0, 1) := by decide +kernel
theorem dX10_in_7 : decode cX10_in 7 = .ok (.lload 4, 2) := by decide +kernel
theorem dX10_in_9 : decode cX10_in 9 = .ok (.lcmp, 1) := by decide +kernel
theorem dX10_in_10 : decode cX10_in 10 = .ok (.ifCond .gt 7, 3) := by decide +kernel
theorem dX10_in_13 : decode cX10_in 13 = .ok (.iconst 1, 1) := by decide +kernel
theorem dX10_in_14 : decode cX10_in 14 = .ok (.goto 4, 3) := by decide +kernel
theorem dX10_in_17 : decode cX10_in 17 = .ok (.iconst 0, 1) := by decide +kernel
theorem dX10_in_18 : decode cX10_in 18 = .ok (.ireturn, 1) := by decide +kernel
theorem dX10_has_0 : decode cX10_has 0 = .ok (.iload_n 0, 1) := by decide +kernel
theorem dX10_has_1 : decode cX10_has 1 = .ok (.iload_n 1, 1) := by decide +kernel
theorem dX10_has_2 : decode cX10_has 2 = .ok (.ishr, 1) := by decide +kernel
theorem dX10_has_3 : decode cX10_has 3 = .ok (.iconst 1, 1) := by decide +kernel
theorem dX10_has_4 : decode cX10_has 4 = .ok (.iand, 1) := by decide +kernel
theorem dX10_has_5 : decode cX10_has 5 = .ok (.iconst 1, 1) := by decide +kernel
theorem dX10_has_6 : decode cX10_has 6 = .ok (.if_icmp .ne 7, 3) := by decide +kernel
theorem dX10_has_9 : decode cX10_has 9 = .ok (.iconst 1, 1) := by decide +kernel
theorem dX10_has_10 : decode cX10_has 10 = .ok (.goto 4, 3) := by decide +kernel
theorem dX10_has_13 : decode cX10_has 13 = .ok (.iconst 0, 1) := by decide +kernel
theorem dX10_has_14 : decode cX10_has 14 = .ok (.ireturn, 1) := by decide +kernel
theorem dX10_ones_0 : decode cX10_ones 0 = .ok (.iconst 0, 1) := by decide +kernel
theorem dX10_ones_1 : decode cX10_ones 1 = .ok (.istore_n 1, 1) := by decide +kernel
theorem dX10_ones_2 : decode cX10_ones 2 = .ok (.iload_n 0, 1) := by decide +kernel
theorem dX10_ones_3 : decode cX10_ones 3 = .ok (.istore_n 2, 1) := by decide +kernel
theorem dX10_ones_4 : decode cX10_ones 4 = .ok (.iload_n 2, 1) := by decide +kernel
theorem dX10_ones_5 : decode cX10_ones 5 = .ok (.ifCond .eq 15, 3) := by decide +kernel
theorem dX10_ones_8 : decode cX10_ones 8 = .ok (.iinc 1 1, 3) := by decide +kernel
theorem dX10_ones_11 : decode cX10_ones 11 = .ok (.iload_n 2, 1) := by decide +kernel
theorem dX10_ones_12 : decode cX10_ones 12 = .ok (.iload_n 2, 1) := by decide +kernel
theorem dX10_ones_13 : decode cX10_ones 13 = .ok (.iconst 1, 1) := by decide +kernel
theorem dX10_ones_14 : decode cX10_ones 14 = .ok (.isub, 1) := by decide +kernel
theorem dX10_ones_15 : decode cX10_ones 15 = .ok (.iand, 1) := by decide +kernel
theorem dX10_ones_16 : decode cX10_ones 16 = .ok (.istore_n 2, 1) := by decide +kernel
theorem dX10_ones_17 : decode cX10_ones 17 = .ok (.goto (-13), 3) := by decide +kernel
theorem dX10_ones_20 : decode cX10_ones 20 = .ok (.iload_n 1, 1) := by decide +kernel
theorem dX10_ones_21 : decode cX10_ones 21 = .ok (.ireturn, 1) := by decide +kernel
theorem dX10_noPrint_0 : decode cX10_noPrint 0 = .ok (.iconst 0, 1) := by decide +kernel
theorem dX10_noPrint_1 : decode cX10_noPrint 1 = .ok (.istore_n 1, 1) := by decide +kernel
theorem dX10_noPrint_2 : decode cX10_noPrint 2 = .ok (.iload_n 1, 1) := by decide +kernel
theorem dX10_noPrint_3 : decode cX10_noPrint 3 = .ok (.bipush 32, 2) := by decide +kernel
theorem dX10_noPrint_5 : decode cX10_noPrint 5 = .ok (.if_icmp .ge 29, 3) := by decide +kernel
theorem dX10_noPrint_8 : decode cX10_noPrint 8 = .ok (.aload_n 0, 1) := by decide +kernel
theorem dX10_noPrint_9 : decode cX10_noPrint 9 = .ok (.getfield 7, 3) := by decide +kernel
theorem dX10_noPrint_12 : decode cX10_noPrint 12 = .ok (.bipush 90, 2) := by decide +kernel
theorem dX10_noPrint_14 : decode cX10_noPrint 14 = .ok (.iload_n 1, 1) := by decide +kernel
theorem dX10_noPrint_15 : decode cX10_noPrint 15 = .ok (.iadd, 1) := by decide +kernel
theorem dX10_noPrint_16 : decode cX10_noPrint 16 = .ok (.iconst (-1), 1) := by decide +kernel
theorem dX10_noPrint_17 : decode cX10_noPrint 17 = .ok (.iastore, 1) := by decide +kernel
theorem dX10_noPrint_18 : decode cX10_noPrint 18 = .ok (.aload_n 0, 1) := by decide +kernel
theorem dX10_noPrint_19 : decode cX10_noPrint 19 = .ok (.getfield 7, 3) := by decide +kernel
theorem dX10_noPrint_22 : decode cX10_noPrint 22 = .ok (.bipush 122, 2) := by decide +kernel
theorem dX10_noPrint_24 : decode cX10_noPrint 24 = .ok (.iload_n 1, 1) := by decide +kernel
theorem dX10_noPrint_25 : decode cX10_noPrint 25 = .ok (.iadd, 1) := by decide +kernel
theorem dX10_noPrint_26 : decode cX10_noPrint 26 = .ok (.iconst 0, 1) := by decide +kernel
theorem dX10_noPrint_27 : decode cX10_noPrint 27 = .ok (.iastore, 1) := by decide +kernel
theorem dX10_noPrint_28 : decode cX10_noPrint 28 = .ok (.iinc 1 1, 3) := by decide +kernel
theorem dX10_noPrint_31 : decode cX10_noPrint 31 = .ok (.goto (-29), 3) := by decide +kernel
theorem dX10_noPrint_34 : decode cX10_noPrint 34 = .ok (.return_, 1) := by decide +kernel
theorem dX10_cells_0 : decode cX10_cells 0 = .ok (.aload_n 0, 1) := by decide +kernel
theorem dX10_cells_1 : decode cX10_cells 1 = .ok (.getfield 7, 3) := by decide +kernel
theorem dX10_cells_4 : decode cX10_cells 4 = .ok (.iconst 0, 1) := by decide +kernel
theorem dX10_cells_5 : decode cX10_cells 5 = .ok (.iaload, 1) := by decide +kernel
theorem dX10_cells_6 : decode cX10_cells 6 = .ok (.aload_n 0, 1) := by decide +kernel
theorem dX10_cells_7 : decode cX10_cells 7 = .ok (.getfield 7, 3) := by decide +kernel
theorem dX10_cells_10 : decode cX10_cells 10 = .ok (.iconst 1, 1) := by decide +kernel
theorem dX10_cells_11 : decode cX10_cells 11 = .ok (.iaload, 1) := by decide +kernel
theorem dX10_cells_12 : decode cX10_cells 12 = .ok (.imul, 1) := by decide +kernel
theorem dX10_cells_13 : decode cX10_cells 13 = .ok (.ireturn, 1) := by decide +kernel
theorem dX10_isHeld_0 : decode cX10_isHeld 0 = .ok (.aload_n 0, 1) := by decide +kernel
theorem dX10_isHeld_1 : decode cX10_isHeld 1 = .ok (.getfield 7, 3) := by decide +kernel
theorem dX10_isHeld_4 : decode cX10_isHeld 4 = .ok (.bipush 8, 2) := by decide +kernel
theorem dX10_isHeld_6 : decode cX10_isHeld 6 = .ok (.iaload, 1) := by decide +kernel
theorem dX10_isHeld_7 : decode cX10_isHeld 7 = .ok (.ifCond .ne 13, 3) := by decide +kernel
theorem dX10_isHeld_10 : decode cX10_isHeld 10 = .ok (.aload_n 0, 1) := by decide +kernel
theorem dX10_isHeld_11 : decode cX10_isHeld 11 = .ok (.getfield 7, 3) := by decide +kernel
theorem dX10_isHeld_14 : decode cX10_isHeld 14 = .ok (.bipush 9, 2) := by decide +kernel
theorem dX10_isHeld_16 : decode cX10_isHeld 16 = .ok (.iaload, 1) := by decide +kernel
theorem dX10_isHeld_17 : decode cX10_isHeld 17 = .ok (.ifCond .eq 7, 3) := by decide +kernel
theorem dX10_isHeld_20 : decode cX10_isHeld 20 = .ok (.iconst 1, 1) := by decide +kernel
theorem dX10_isHeld_21 : decode cX10_isHeld 21 = .ok (.goto 4, 3) := by decide +kernel
theorem dX10_isHeld_24 : decode cX10_isHeld 24 = .ok (.iconst 0, 1) := by decide +kernel
theorem dX10_isHeld_25 : decode cX10_isHeld 25 = .ok (.ireturn, 1) := by decide +kernel
theorem dX10_record_0 : decode cX10_record 0 = .ok (.aload_n 0, 1) := by decide +kernel
theorem dX10_record_1 : decode cX10_record 1 = .ok (.getfield 61, 3) := by decide +kernel
theorem dX10_record_4 : decode cX10_record 4 = .ok (.iconst 5, 1) := by decide +kernel
theorem dX10_record_5 : decode cX10_record 5 = .ok (.if_icmp .ne 44, 3) := by decide +kernel
theorem dX10_record_8 : decode cX10_record 8 = .ok (.iconst 0, 1) := by decide +kernel
theorem dX10_record_9 : decode cX10_record 9 = .ok (.istore_n 1, 1) := by decide +kernel
theorem dX10_record_10 : decode cX10_record 10 = .ok (.iload_n 1, 1) := by decide +kernel
theorem dX10_record_11 : decode cX10_record 11 = .ok (.sipush 1856, 3) := by decide +kernel
theorem dX10_record_14 : decode cX10_record 14 = .ok (.if_icmp .ge 25, 3) := by decide +kernel
theorem dX10_record_17 : decode cX10_record 17 = .ok (.aload_n 0, 1) := by decide +kernel
theorem dX10_record_18 : decode cX10_record 18 = .ok (.getfield 13, 3) := by decide +kernel
theorem dX10_record_21 : decode cX10_record 21 = .ok (.iload_n 1, 1) := by decide +kernel
theorem dX10_record_22 : decode cX10_record 22 = .ok (.aload_n 0, 1) := by decide +kernel
theorem dX10_record_23 : decode cX10_record 23 = .ok (.getfield 13, 3) := by decide +kernel
theorem dX10_record_26 : decode cX10_record 26 = .ok (.sipush 464, 3) := by decide +kernel
theorem dX10_record_29 : decode cX10_record 29 = .ok (.iload_n 1, 1) := by decide +kernel
theorem dX10_record_30 : decode cX10_record 30 = .ok (.iadd, 1) := by decide +kernel
theorem dX10_record_31 : decode cX10_record 31 = .ok (.iaload, 1) := by decide +kernel
theorem dX10_record_32 : decode cX10_record 32 = .ok (.iastore, 1) := by decide +kernel
theorem dX10_record_33 : decode cX10_record 33 = .ok (.iinc 1 1, 3) := by decide +kernel
theorem dX10_record_36 : decode cX10_record 36 = .ok (.goto (-26), 3) := by decide +kernel
theorem dX10_record_39 : decode cX10_record 39 = .ok (.aload_n 0, 1) := by decide +kernel
theorem dX10_record_40 : decode cX10_record 40 = .ok (.dup, 1) := by decide +kernel
theorem dX10_record_41 : decode cX10_record 41 = .ok (.getfield 61, 3) := by decide +kernel
theorem dX10_record_44 : decode cX10_record 44 = .ok (.iconst 1, 1) := by decide +kernel
theorem dX10_record_45 : decode cX10_record 45 = .ok (.isub, 1) := by decide +kernel
theorem dX10_record_46 : decode cX10_record 46 = .ok (.putfield 61, 3) := by decide +kernel
theorem dX10_record_49 : decode cX10_record 49 = .ok (.iconst 0, 1) := by decide +kernel
theorem dX10_record_50 : decode cX10_record 50 = .ok (.istore_n 1, 1) := by decide +kernel
theorem dX10_record_51 : decode cX10_record 51 = .ok (.iload_n 1, 1) := by decide +kernel
theorem dX10_record_52 : decode cX10_record 52 = .ok (.sipush 464, 3) := by decide +kernel
theorem dX10_record_55 : decode cX10_record 55 = .ok (.if_icmp .ge 30, 3) := by decide +kernel
theorem dX10_record_58 : decode cX10_record 58 = .ok (.aload_n 0, 1) := by decide +kernel
theorem dX10_record_59 : decode cX10_record 59 = .ok (.getfield 13, 3) := by decide +kernel
theorem dX10_record_62 : decode cX10_record 62 = .ok (.sipush 464, 3) := by decide +kernel
theorem dX10_record_65 : decode cX10_record 65 = .ok (.aload_n 0, 1) := by decide +kernel
theorem dX10_record_66 : decode cX10_record 66 = .ok (.getfield 61, 3) := by decide +kernel
theorem dX10_record_69 : decode cX10_record 69 = .ok (.imul, 1) := by decide +kernel
theorem dX10_record_70 : decode cX10_record 70 = .ok (.iload_n 1, 1) := by decide +kernel
theorem dX10_record_71 : decode cX10_record 71 = .ok (.iadd, 1) := by decide +kernel
theorem dX10_record_72 : decode cX10_record 72 = .ok (.aload_n 0, 1) := by decide +kernel
theorem dX10_record_73 : decode cX10_record 73 = .ok (.getfield 7, 3) := by decide +kernel
theorem dX10_record_76 : decode cX10_record 76 = .ok (.iload_n 1, 1) := by decide +kernel
theorem dX10_record_77 : decode cX10_record 77 = .ok (.iaload, 1) := by decide +kernel
theorem dX10_record_78 : decode cX10_record 78 = .ok (.iastore, 1) := by decide +kernel
theorem dX10_record_79 : decode cX10_record 79 = .ok (.iinc 1 1, 3) := by decide +kernel
theorem dX10_record_82 : decode cX10_record 82 = .ok (.goto (-31), 3) := by decide +kernel
theorem dX10_record_85 : decode cX10_record 85 = .ok (.aload_n 0, 1) := by decide +kernel
theorem dX10_record_86 : decode cX10_record 86 = .ok (.dup, 1) := by decide +kernel
theorem dX10_record_87 : decode cX10_record 87 = .ok (.getfield 61, 3) := by decide +kernel
theorem dX10_record_90 : decode cX10_record 90 = .ok (.iconst 1, 1) := by decide +kernel
theorem dX10_record_91 : decode cX10_record 91 = .ok (.iadd, 1) := by decide +kernel
theorem dX10_record_92 : decode cX10_record 92 = .ok (.putfield 61, 3) := by decide +kernel
theorem dX10_record_95 : decode cX10_record 95 = .ok (.return_, 1) := by decide +kernel
theorem dX10_act_0 : decode cX10_act 0 = .ok (.aload_n 0, 1) := by decide +kernel
theorem dX10_act_1 : decode cX10_act 1 = .ok (.getfield 65, 3) := by decide +kernel
theorem dX10_act_4 : decode cX10_act 4 = .ok (.ifCond .ne 7, 3) := by decide +kernel
theorem dX10_act_7 : decode cX10_act 7 = .ok (.aload_n 0, 1) := by decide +kernel
theorem dX10_act_8 : decode cX10_act 8 = .ok (.invokevirtual 69, 3) := by decide +kernel
theorem dX10_act_11 : decode cX10_act 11 = .ok (.return_, 1) := by decide +kernel
theorem dX10_layOpen_0 : decode cX10_layOpen 0 = .ok (.aload_n 0, 1) := by decide +kernel
theorem dX10_layOpen_1 : decode cX10_layOpen 1 = .ok (.aload_n 0, 1) := by decide +kernel
theorem dX10_layOpen_2 : decode cX10_layOpen 2 = .ok (.getfield 7, 3) := by decide +kernel
theorem dX10_layOpen_5 : decode cX10_layOpen 5 = .ok (.iconst 0, 1) := by decide +kernel
theorem dX10_layOpen_6 : decode cX10_layOpen 6 = .ok (.iaload, 1) := by decide +kernel
theorem dX10_layOpen_7 : decode cX10_layOpen 7 = .ok (.putfield 72, 3) := by decide +kernel
theorem dX10_layOpen_10 : decode cX10_layOpen 10 = .ok (.aload_n 0, 1) := by decide +kernel
theorem dX10_layOpen_11 : decode cX10_layOpen 11 = .ok (.aload_n 0, 1) := by decide +kernel
theorem dX10_layOpen_12 : decode cX10_layOpen 12 = .ok (.getfield 7, 3) := by decide +kernel
theorem dX10_layOpen_15 : decode cX10_layOpen 15 = .ok (.iconst 1, 1) := by decide +kernel
theorem dX10_layOpen_16 : decode cX10_layOpen 16 = .ok (.iaload, 1) := by decide +kernel
theorem dX10_layOpen_17 : decode cX10_layOpen 17 = .ok (.putfield 75, 3) := by decide +kernel
theorem dX10_layOpen_20 : decode cX10_layOpen 20 = .ok (.aload_n 0, 1) := by decide +kernel
theorem dX10_layOpen_21 : decode cX10_layOpen 21 = .ok (.iconst 1, 1) := by decide +kernel
theorem dX10_layOpen_22 : decode cX10_layOpen 22 = .ok (.putfield 78, 3) := by decide +kernel
theorem dX10_layOpen_25 : decode cX10_layOpen 25 = .ok (.iconst 0, 1) := by decide +kernel
theorem dX10_layOpen_26 : decode cX10_layOpen 26 = .ok (.istore_n 1, 1) := by decide +kernel
theorem dX10_layOpen_27 : decode cX10_layOpen 27 = .ok (.iload_n 1, 1) := by decide +kernel
theorem dX10_layOpen_28 : decode cX10_layOpen 28 = .ok (.bipush 16, 2) := by decide +kernel
theorem dX10_layOpen_30 : decode cX10_layOpen 30 = .ok (.if_icmp .ge 37, 3) := by decide +kernel
theorem dX10_layOpen_33 : decode cX10_layOpen 33 = .ok (.aload_n 0, 1) := by decide +kernel
theorem dX10_layOpen_34 : decode cX10_layOpen 34 = .ok (.getfield 22, 3) := by decide +kernel
theorem dX10_layOpen_37 : decode cX10_layOpen 37 = .ok (.iload_n 1, 1) := by decide +kernel
theorem dX10_layOpen_38 : decode cX10_layOpen 38 = .ok (.iload_n 1, 1) := by decide +kernel
theorem dX10_layOpen_39 : decode cX10_layOpen 39 = .ok (.iastore, 1) := by decide +kernel
theorem dX10_layOpen_40 : decode cX10_layOpen 40 = .ok (.aload_n 0, 1) := by decide +kernel
theorem dX10_layOpen_41 : decode cX10_layOpen 41 = .ok (.getfield 25, 3) := by decide +kernel
theorem dX10_layOpen_44 : decode cX10_layOpen 44 = .ok (.iload_n 1, 1) := by decide +kernel
theorem dX10_layOpen_45 : decode cX10_layOpen 45 = .ok (.iconst 0, 1) := by decide +kernel
theorem dX10_layOpen_46 : decode cX10_layOpen 46 = .ok (.iastore, 1) := by decide +kernel
theorem dX10_layOpen_47 : decode cX10_layOpen 47 = .ok (.aload_n 0, 1) := by decide +kernel
theorem dX10_layOpen_48 : decode cX10_layOpen 48 = .ok (.getfield 28, 3) := by decide +kernel
theorem dX10_layOpen_51 : decode cX10_layOpen 51 = .ok (.iload_n 1, 1) := by decide +kernel
theorem dX10_layOpen_52 : decode cX10_layOpen 52 = .ok (.iconst 0, 1) := by decide +kernel
theorem dX10_layOpen_53 : decode cX10_layOpen 53 = .ok (.iastore, 1) := by decide +kernel
theorem dX10_layOpen_54 : decode cX10_layOpen 54 = .ok (.aload_n 0, 1) := by decide +kernel
theorem dX10_layOpen_55 : decode cX10_layOpen 55 = .ok (.getfield 31, 3) := by decide +kernel
theorem dX10_layOpen_58 : decode cX10_layOpen 58 = .ok (.iload_n 1, 1) := by decide +kernel
theorem dX10_layOpen_59 : decode cX10_layOpen 59 = .ok (.iconst 0, 1) := by decide +kernel
theorem dX10_layOpen_60 : decode cX10_layOpen 60 = .ok (.iastore, 1) := by decide +kernel
theorem dX10_layOpen_61 : decode cX10_layOpen 61 = .ok (.iinc 1 1, 3) := by decide +kernel
theorem dX10_layOpen_64 : decode cX10_layOpen 64 = .ok (.goto (-37), 3) := by decide +kernel
theorem dX10_layOpen_67 : decode cX10_layOpen 67 = .ok (.return_, 1) := by decide +kernel
theorem dX10_mayFold_0 : decode cX10_mayFold 0 = .ok (.iload_n 1, 1) := by decide +kernel
theorem dX10_mayFold_1 : decode cX10_mayFold 1 = .ok (.iconst 3, 1) := by decide +kernel
theorem dX10_mayFold_2 : decode cX10_mayFold 2 = .ok (.if_icmp .ge 19, 3) := by decide +kernel
theorem dX10_mayFold_5 : decode cX10_mayFold 5 = .ok (.aload_n 0, 1) := by decide +kernel
theorem dX10_mayFold_6 : decode cX10_mayFold 6 = .ok (.getfield 75, 3) := by decide +kernel
theorem dX10_mayFold_9 : decode cX10_mayFold 9 = .ok (.iconst 1, 1) := by decide +kernel
theorem dX10_mayFold_10 : decode cX10_mayFold 10 = .ok (.if_icmp .le 7, 3) := by decide +kernel
theorem dX10_mayFold_13 : decode cX10_mayFold 13 = .ok (.iconst 1, 1) := by decide +kernel
theorem dX10_mayFold_14 : decode cX10_mayFold 14 = .ok (.goto 20, 3) := by decide +kernel
theorem dX10_mayFold_17 : decode cX10_mayFold 17 = .ok (.iconst 0, 1) := by decide +kernel
theorem dX10_mayFold_18 : decode cX10_mayFold 18 = .ok (.goto 16, 3) := by decide +kernel
theorem dX10_mayFold_21 : decode cX10_mayFold 21 = .ok (.aload_n 0, 1) := by decide +kernel
theorem dX10_mayFold_22 : decode cX10_mayFold 22 = .ok (.getfield 72, 3) := by decide +kernel
theorem dX10_mayFold_25 : decode cX10_mayFold 25 = .ok (.iconst 1, 1) := by decide +kernel
theorem dX10_mayFold_26 : decode cX10_mayFold 26 = .ok (.if_icmp .le 7, 3) := by decide +kernel
theorem dX10_mayFold_29 : decode cX10_mayFold 29 = .ok (.iconst 1, 1) := by decide +kernel
theorem dX10_mayFold_30 : decode cX10_mayFold 30 = .ok (.goto 4, 3) := by decide +kernel
theorem dX10_mayFold_33 : decode cX10_mayFold 33 = .ok (.iconst 0, 1) := by decide +kernel
theorem dX10_mayFold_34 : decode cX10_mayFold 34 = .ok (.ireturn, 1) := by decide +kernel
theorem dX10_takeLayer_0 : decode cX10_takeLayer 0 = .ok (.aload_n 0, 1) := by decide +kernel
theorem dX10_takeLayer_1 : decode cX10_takeLayer 1 = .ok (.getfield 22, 3) := by decide +kernel
theorem dX10_takeLayer_4 : decode cX10_takeLayer 4 = .ok (.iload_n 1, 1) := by decide +kernel
theorem dX10_takeLayer_5 : decode cX10_takeLayer 5 = .ok (.aload_n 0, 1) := by decide +kernel
theorem dX10_takeLayer_6 : decode cX10_takeLayer 6 = .ok (.getfield 34, 3) := by decide +kernel
theorem dX10_takeLayer_9 : decode cX10_takeLayer 9 = .ok (.iload_n 2, 1) := by decide +kernel
theorem dX10_takeLayer_10 : decode cX10_takeLayer 10 = .ok (.iaload, 1) := by decide +kernel
theorem dX10_takeLayer_11 : decode cX10_takeLayer 11 = .ok (.iastore, 1) := by decide +kernel
theorem dX10_takeLayer_12 : decode cX10_takeLayer 12 = .ok (.aload_n 0, 1) := by decide +kernel
theorem dX10_takeLayer_13 : decode cX10_takeLayer 13 = .ok (.getfield 25, 3) := by decide +kernel
theorem dX10_takeLayer_16 : decode cX10_takeLayer 16 = .ok (.iload_n 1, 1) := by decide +kernel
theorem dX10_takeLayer_17 : decode cX10_takeLayer 17 = .ok (.iload_n 3, 1) := by decide +kernel
theorem dX10_takeLayer_18 : decode cX10_takeLayer 18 = .ok (.ifCond .ne 12, 3) := by decide +kernel
theorem dX10_takeLayer_21 : decode cX10_takeLayer 21 = .ok (.aload_n 0, 1) := by decide +kernel
theorem dX10_takeLayer_22 : decode cX10_takeLayer 22 = .ok (.getfield 37, 3) := by decide +kernel
theorem dX10_takeLayer_25 : decode cX10_takeLayer 25 = .ok (.iload_n 2, 1) := by decide +kernel
theorem dX10_takeLayer_26 : decode cX10_takeLayer 26 = .ok (.iaload, 1) := by decide +kernel
theorem dX10_takeLayer_27 : decode cX10_takeLayer 27 = .ok (.goto 11, 3) := by decide +kernel
theorem dX10_takeLayer_30 : decode cX10_takeLayer 30 = .ok (.iconst 1, 1) := by decide +kernel
theorem dX10_takeLayer_31 : decode cX10_takeLayer 31 = .ok (.aload_n 0, 1) := by decide +kernel
theorem dX10_takeLayer_32 : decode cX10_takeLayer 32 = .ok (.getfield 37, 3) := by decide +kernel
theorem dX10_takeLayer_35 : decode cX10_takeLayer 35 = .ok (.iload_n 2, 1) := by decide +kernel
theorem dX10_takeLayer_36 : decode cX10_takeLayer 36 = .ok (.iaload, 1) := by decide +kernel
theorem dX10_takeLayer_37 : decode cX10_takeLayer 37 = .ok (.isub, 1) := by decide +kernel
theorem dX10_takeLayer_38 : decode cX10_takeLayer 38 = .ok (.iastore, 1) := by decide +kernel
theorem dX10_takeLayer_39 : decode cX10_takeLayer 39 = .ok (.aload_n 0, 1) := by decide +kernel
theorem dX10_takeLayer_40 : decode cX10_takeLayer 40 = .ok (.getfield 28, 3) := by decide +kernel
theorem dX10_takeLayer_43 : decode cX10_takeLayer 43 = .ok (.iload_n 1, 1) := by decide +kernel
theorem dX10_takeLayer_44 : decode cX10_takeLayer 44 = .ok (.iload_n 3, 1) := by decide +kernel
theorem dX10_takeLayer_45 : decode cX10_takeLayer 45 = .ok (.iconst 1, 1) := by decide +kernel
theorem dX10_takeLayer_46 : decode cX10_takeLayer 46 = .ok (.if_icmp .ne 14, 3) := by decide +kernel
theorem dX10_takeLayer_49 : decode cX10_takeLayer 49 = .ok (.iconst 1, 1) := by decide +kernel
theorem dX10_takeLayer_50 : decode cX10_takeLayer 50 = .ok (.aload_n 0, 1) := by decide +kernel
theorem dX10_takeLayer_51 : decode cX10_takeLayer 51 = .ok (.getfield 40, 3) := by decide +kernel
theorem dX10_takeLayer_54 : decode cX10_takeLayer 54 = .ok (.iload_n 2, 1) := by decide +kernel
theorem dX10_takeLayer_55 : decode cX10_takeLayer 55 = .ok (.iaload, 1) := by decide +kernel
theorem dX10_takeLayer_56 : decode cX10_takeLayer 56 = .ok (.isub, 1) := by decide +kernel
theorem dX10_takeLayer_57 : decode cX10_takeLayer 57 = .ok (.goto 9, 3) := by decide +kernel
theorem dX10_takeLayer_60 : decode cX10_takeLayer 60 = .ok (.aload_n 0, 1) := by decide +kernel
theorem dX10_takeLayer_61 : decode cX10_takeLayer 61 = .ok (.getfield 40, 3) := by decide +kernel
theorem dX10_takeLayer_64 : decode cX10_takeLayer 64 = .ok (.iload_n 2, 1) := by decide +kernel
theorem dX10_takeLayer_65 : decode cX10_takeLayer 65 = .ok (.iaload, 1) := by decide +kernel
theorem dX10_takeLayer_66 : decode cX10_takeLayer 66 = .ok (.iastore, 1) := by decide +kernel
theorem dX10_takeLayer_67 : decode cX10_takeLayer 67 = .ok (.aload_n 0, 1) := by decide +kernel
theorem dX10_takeLayer_68 : decode cX10_takeLayer 68 = .ok (.getfield 31, 3) := by decide +kernel
theorem dX10_takeLayer_71 : decode cX10_takeLayer 71 = .ok (.iload_n 1, 1) := by decide +kernel
theorem dX10_takeLayer_72 : decode cX10_takeLayer 72 = .ok (.iload_n 3, 1) := by decide +kernel
theorem dX10_takeLayer_73 : decode cX10_takeLayer 73 = .ok (.iconst 2, 1) := by decide +kernel
theorem dX10_takeLayer_74 : decode cX10_takeLayer 74 = .ok (.if_icmp .ne 14, 3) := by decide +kernel
theorem dX10_takeLayer_77 : decode cX10_takeLayer 77 = .ok (.iconst 1, 1) := by decide +kernel
theorem dX10_takeLayer_78 : decode cX10_takeLayer 78 = .ok (.aload_n 0, 1) := by decide +kernel
theorem dX10_takeLayer_79 : decode cX10_takeLayer 79 = .ok (.getfield 43, 3) := by decide +kernel
theorem dX10_takeLayer_82 : decode cX10_takeLayer 82 = .ok (.iload_n 2, 1) := by decide +kernel
theorem dX10_takeLayer_83 : decode cX10_takeLayer 83 = .ok (.iaload, 1) := by decide +kernel
theorem dX10_takeLayer_84 : decode cX10_takeLayer 84 = .ok (.isub, 1) := by decide +kernel
theorem dX10_takeLayer_85 : decode cX10_takeLayer 85 = .ok (.goto 9, 3) := by decide +kernel
theorem dX10_takeLayer_88 : decode cX10_takeLayer 88 = .ok (.aload_n 0, 1) := by decide +kernel
theorem dX10_takeLayer_89 : decode cX10_takeLayer 89 = .ok (.getfield 43, 3) := by decide +kernel
theorem dX10_takeLayer_92 : decode cX10_takeLayer 92 = .ok (.iload_n 2, 1) := by decide +kernel
theorem dX10_takeLayer_93 : decode cX10_takeLayer 93 = .ok (.iaload, 1) := by decide +kernel
theorem dX10_takeLayer_94 : decode cX10_takeLayer 94 = .ok (.iastore, 1) := by decide +kernel
theorem dX10_takeLayer_95 : decode cX10_takeLayer 95 = .ok (.return_, 1) := by decide +kernel
theorem dX10_foldBy_0 : decode cX10_foldBy 0 = .ok (.iconst 0, 1) := by decide +kernel
theorem dX10_foldBy_1 : decode cX10_foldBy 1 = .ok (.istore_n 2, 1) := by decide +kernel
theorem dX10_foldBy_2 : decode cX10_foldBy 2 = .ok (.iload_n 2, 1) := by decide +kernel
theorem dX10_foldBy_3 : decode cX10_foldBy 3 = .ok (.bipush 16, 2) := by decide +kernel
theorem dX10_foldBy_5 : decode cX10_foldBy 5 = .ok (.if_icmp .ge 57, 3) := by decide +kernel
theorem dX10_foldBy_8 : decode cX10_foldBy 8 = .ok (.aload_n 0, 1) := by decide +kernel
theorem dX10_foldBy_9 : decode cX10_foldBy 9 = .ok (.getfield 34, 3) := by decide +kernel
theorem dX10_foldBy_12 : decode cX10_foldBy 12 = .ok (.iload_n 2, 1) := by decide +kernel
theorem dX10_foldBy_13 : decode cX10_foldBy 13 = .ok (.aload_n 0, 1) := by decide +kernel
theorem dX10_foldBy_14 : decode cX10_foldBy 14 = .ok (.getfield 22, 3) := by decide +kernel
theorem dX10_foldBy_17 : decode cX10_foldBy 17 = .ok (.iload_n 2, 1) := by decide +kernel
theorem dX10_foldBy_18 : decode cX10_foldBy 18 = .ok (.iaload, 1) := by decide +kernel
theorem dX10_foldBy_19 : decode cX10_foldBy 19 = .ok (.iastore, 1) := by decide +kernel
theorem dX10_foldBy_20 : decode cX10_foldBy 20 = .ok (.aload_n 0, 1) := by decide +kernel
theorem dX10_foldBy_21 : decode cX10_foldBy 21 = .ok (.getfield 37, 3) := by decide +kernel
theorem dX10_foldBy_24 : decode cX10_foldBy 24 = .ok (.iload_n 2, 1) := by decide +kernel
theorem dX10_foldBy_25 : decode cX10_foldBy 25 = .ok (.aload_n 0, 1) := by decide +kernel
theorem dX10_foldBy_26 : decode cX10_foldBy 26 = .ok (.getfield 25, 3) := by decide +kernel
theorem dX10_foldBy_29 : decode cX10_foldBy 29 = .ok (.iload_n 2, 1) := by decide +kernel
theorem dX10_foldBy_30 : decode cX10_foldBy 30 = .ok (.iaload, 1) := by decide +kernel
theorem dX10_foldBy_31 : decode cX10_foldBy 31 = .ok (.iastore, 1) := by decide +kernel
theorem dX10_foldBy_32 : decode cX10_foldBy 32 = .ok (.aload_n 0, 1) := by decide +kernel
theorem dX10_foldBy_33 : decode cX10_foldBy 33 = .ok (.getfield 40, 3) := by decide +kernel
theorem dX10_foldBy_36 : decode cX10_foldBy 36 = .ok (.iload_n 2, 1) := by decide +kernel
theorem dX10_foldBy_37 : decode cX10_foldBy 37 = .ok (.aload_n 0, 1) := by decide +kernel
theorem dX10_foldBy_38 : decode cX10_foldBy 38 = .ok (.getfield 28, 3) := by decide +kernel
theorem dX10_foldBy_41 : decode cX10_foldBy 41 = .ok (.iload_n 2, 1) := by decide +kernel
theorem dX10_foldBy_42 : decode cX10_foldBy 42 = .ok (.iaload, 1) := by decide +kernel
theorem dX10_foldBy_43 : decode cX10_foldBy 43 = .ok (.iastore, 1) := by decide +kernel
theorem dX10_foldBy_44 : decode cX10_foldBy 44 = .ok (.aload_n 0, 1) := by decide +kernel
theorem dX10_foldBy_45 : decode cX10_foldBy 45 = .ok (.getfield 43, 3) := by decide +kernel
theorem dX10_foldBy_48 : decode cX10_foldBy 48 = .ok (.iload_n 2, 1) := by decide +kernel
theorem dX10_foldBy_49 : decode cX10_foldBy 49 = .ok (.aload_n 0, 1) := by decide +kernel
theorem dX10_foldBy_50 : decode cX10_foldBy 50 = .ok (.getfield 31, 3) := by decide +kernel
theorem dX10_foldBy_53 : decode cX10_foldBy 53 = .ok (.iload_n 2, 1) := by decide +kernel
theorem dX10_foldBy_54 : decode cX10_foldBy 54 = .ok (.iaload, 1) := by decide +kernel
theorem dX10_foldBy_55 : decode cX10_foldBy 55 = .ok (.iastore, 1) := by decide +kernel
theorem dX10_foldBy_56 : decode cX10_foldBy 56 = .ok (.iinc 2 1, 3) := by decide +kernel
theorem dX10_foldBy_59 : decode cX10_foldBy 59 = .ok (.goto (-57), 3) := by decide +kernel
theorem dX10_foldBy_62 : decode cX10_foldBy 62 = .ok (.iload_n 1, 1) := by decide +kernel
theorem dX10_foldBy_63 : decode cX10_foldBy 63 = .ok (.iconst 3, 1) := by decide +kernel
theorem dX10_foldBy_64 : decode cX10_foldBy 64 = .ok (.if_icmp .ge 10, 3) := by decide +kernel
theorem dX10_foldBy_67 : decode cX10_foldBy 67 = .ok (.aload_n 0, 1) := by decide +kernel
theorem dX10_foldBy_68 : decode cX10_foldBy 68 = .ok (.getfield 72, 3) := by decide +kernel
theorem dX10_foldBy_71 : decode cX10_foldBy 71 = .ok (.goto 9, 3) := by decide +kernel
theorem dX10_foldBy_74 : decode cX10_foldBy 74 = .ok (.aload_n 0, 1) := by decide +kernel
theorem dX10_foldBy_75 : decode cX10_foldBy 75 = .ok (.getfield 72, 3) := by decide +kernel
theorem dX10_foldBy_78 : decode cX10_foldBy 78 = .ok (.iconst 2, 1) := by decide +kernel
theorem dX10_foldBy_79 : decode cX10_foldBy 79 = .ok (.idiv, 1) := by decide +kernel
theorem dX10_foldBy_80 : decode cX10_foldBy 80 = .ok (.istore_n 2, 1) := by decide +kernel
theorem dX10_foldBy_81 : decode cX10_foldBy 81 = .ok (.iload_n 1, 1) := by decide +kernel
theorem dX10_foldBy_82 : decode cX10_foldBy 82 = .ok (.iconst 3, 1) := by decide +kernel
theorem dX10_foldBy_83 : decode cX10_foldBy 83 = .ok (.if_icmp .ge 12, 3) := by decide +kernel
theorem dX10_foldBy_86 : decode cX10_foldBy 86 = .ok (.aload_n 0, 1) := by decide +kernel
theorem dX10_foldBy_87 : decode cX10_foldBy 87 = .ok (.getfield 75, 3) := by decide +kernel
theorem dX10_foldBy_90 : decode cX10_foldBy 90 = .ok (.iconst 2, 1) := by decide +kernel
theorem dX10_foldBy_91 : decode cX10_foldBy 91 = .ok (.idiv, 1) := by decide +kernel
theorem dX10_foldBy_92 : decode cX10_foldBy 92 = .ok (.goto 7, 3) := by decide +kernel
theorem dX10_foldBy_95 : decode cX10_foldBy 95 = .ok (.aload_n 0, 1) := by decide +kernel
theorem dX10_foldBy_96 : decode cX10_foldBy 96 = .ok (.getfield 75, 3) := by decide +kernel
theorem dX10_foldBy_99 : decode cX10_foldBy 99 = .ok (.istore_n 3, 1) := by decide +kernel
theorem dX10_foldBy_100 : decode cX10_foldBy 100 = .ok (.iconst 0, 1) := by decide +kernel
theorem dX10_foldBy_101 : decode cX10_foldBy 101 = .ok (.istore 4, 2) := by decide +kernel
theorem dX10_foldBy_103 : decode cX10_foldBy 103 = .ok (.iload 4, 2) := by decide +kernel
theorem dX10_foldBy_105 : decode cX10_foldBy 105 = .ok (.iload_n 2, 1) := by decide +kernel
theorem dX10_foldBy_106 : decode cX10_foldBy 106 = .ok (.iload_n 3, 1) := by decide +kernel
theorem dX10_foldBy_107 : decode cX10_foldBy 107 = .ok (.imul, 1) := by decide +kernel
theorem dX10_foldBy_108 : decode cX10_foldBy 108 = .ok (.if_icmp .ge 212, 3) := by decide +kernel
theorem dX10_foldBy_111 : decode cX10_foldBy 111 = .ok (.iload 4, 2) := by decide +kernel
theorem dX10_foldBy_113 : decode cX10_foldBy 113 = .ok (.iload_n 3, 1) := by decide +kernel
theorem dX10_foldBy_114 : decode cX10_foldBy 114 = .ok (.idiv, 1) := by decide +kernel
theorem dX10_foldBy_115 : decode cX10_foldBy 115 = .ok (.istore 5, 2) := by decide +kernel
theorem dX10_foldBy_117 : decode cX10_foldBy 117 = .ok (.iload 4, 2) := by decide +kernel
theorem dX10_foldBy_119 : decode cX10_foldBy 119 = .ok (.iload_n 3, 1) := by decide +kernel
theorem dX10_foldBy_120 : decode cX10_foldBy 120 = .ok (.irem, 1) := by decide +kernel
theorem dX10_foldBy_121 : decode cX10_foldBy 121 = .ok (.istore 6, 2) := by decide +kernel
theorem dX10_foldBy_123 : decode cX10_foldBy 123 = .ok (.iload_n 1, 1) := by decide +kernel
theorem dX10_foldBy_124 : decode cX10_foldBy 124 = .ok (.iconst 3, 1) := by decide +kernel
theorem dX10_foldBy_125 : decode cX10_foldBy 125 = .ok (.if_icmp .ne 10, 3) := by decide +kernel
theorem dX10_foldBy_128 : decode cX10_foldBy 128 = .ok (.iload 5, 2) := by decide +kernel
theorem dX10_foldBy_130 : decode cX10_foldBy 130 = .ok (.iload_n 2, 1) := by decide +kernel
theorem dX10_foldBy_131 : decode cX10_foldBy 131 = .ok (.iadd, 1) := by decide +kernel
theorem dX10_foldBy_132 : decode cX10_foldBy 132 = .ok (.goto 5, 3) := by decide +kernel
theorem dX10_foldBy_135 : decode cX10_foldBy 135 = .ok (.iload 5, 2) := by decide +kernel
theorem dX10_foldBy_137 : decode cX10_foldBy 137 = .ok (.istore 7, 2) := by decide +kernel
theorem dX10_foldBy_139 : decode cX10_foldBy 139 = .ok (.iload_n 1, 1) := by decide +kernel
theorem dX10_foldBy_140 : decode cX10_foldBy 140 = .ok (.iconst 1, 1) := by decide +kernel
theorem dX10_foldBy_141 : decode cX10_foldBy 141 = .ok (.if_icmp .ne 10, 3) := by decide +kernel
theorem dX10_foldBy_144 : decode cX10_foldBy 144 = .ok (.iload 6, 2) := by decide +kernel
theorem dX10_foldBy_146 : decode cX10_foldBy 146 = .ok (.iload_n 3, 1) := by decide +kernel
theorem dX10_foldBy_147 : decode cX10_foldBy 147 = .ok (.iadd, 1) := by decide +kernel
theorem dX10_foldBy_148 : decode cX10_foldBy 148 = .ok (.goto 5, 3) := by decide +kernel
theorem dX10_foldBy_151 : decode cX10_foldBy 151 = .ok (.iload 6, 2) := by decide +kernel
theorem dX10_foldBy_153 : decode cX10_foldBy 153 = .ok (.istore 8, 2) := by decide +kernel
theorem dX10_foldBy_155 : decode cX10_foldBy 155 = .ok (.iload_n 1, 1) := by decide +kernel
theorem dX10_foldBy_156 : decode cX10_foldBy 156 = .ok (.iconst 3, 1) := by decide +kernel
theorem dX10_foldBy_157 : decode cX10_foldBy 157 = .ok (.if_icmp .ge 8, 3) := by decide +kernel
theorem dX10_foldBy_160 : decode cX10_foldBy 160 = .ok (.iload 5, 2) := by decide +kernel
theorem dX10_foldBy_162 : decode cX10_foldBy 162 = .ok (.goto 12, 3) := by decide +kernel
theorem dX10_foldBy_165 : decode cX10_foldBy 165 = .ok (.aload_n 0, 1) := by decide +kernel
theorem dX10_foldBy_166 : decode cX10_foldBy 166 = .ok (.getfield 72, 3) := by decide +kernel
theorem dX10_foldBy_169 : decode cX10_foldBy 169 = .ok (.iconst 1, 1) := by decide +kernel
theorem dX10_foldBy_170 : decode cX10_foldBy 170 = .ok (.isub, 1) := by decide +kernel
theorem dX10_foldBy_171 : decode cX10_foldBy 171 = .ok (.iload 7, 2) := by decide +kernel
theorem dX10_foldBy_173 : decode cX10_foldBy 173 = .ok (.isub, 1) := by decide +kernel
theorem dX10_foldBy_174 : decode cX10_foldBy 174 = .ok (.istore 9, 2) := by decide +kernel
theorem dX10_foldBy_176 : decode cX10_foldBy 176 = .ok (.iload_n 1, 1) := by decide +kernel
theorem dX10_foldBy_177 : decode cX10_foldBy 177 = .ok (.iconst 3, 1) := by decide +kernel
theorem dX10_foldBy_178 : decode cX10_foldBy 178 = .ok (.if_icmp .ge 15, 3) := by decide +kernel
theorem dX10_foldBy_181 : decode cX10_foldBy 181 = .ok (.aload_n 0, 1) := by decide +kernel
theorem dX10_foldBy_182 : decode cX10_foldBy 182 = .ok (.getfield 75, 3) := by decide +kernel
theorem dX10_foldBy_185 : decode cX10_foldBy 185 = .ok (.iconst 1, 1) := by decide +kernel
theorem dX10_foldBy_186 : decode cX10_foldBy 186 = .ok (.isub, 1) := by decide +kernel
theorem dX10_foldBy_187 : decode cX10_foldBy 187 = .ok (.iload 8, 2) := by decide +kernel
theorem dX10_foldBy_189 : decode cX10_foldBy 189 = .ok (.isub, 1) := by decide +kernel
theorem dX10_foldBy_190 : decode cX10_foldBy 190 = .ok (.goto 5, 3) := by decide +kernel
theorem dX10_foldBy_193 : decode cX10_foldBy 193 = .ok (.iload 6, 2) := by decide +kernel
theorem dX10_foldBy_195 : decode cX10_foldBy 195 = .ok (.istore 10, 2) := by decide +kernel
theorem dX10_foldBy_197 : decode cX10_foldBy 197 = .ok (.aload_n 0, 1) := by decide +kernel
theorem dX10_foldBy_198 : decode cX10_foldBy 198 = .ok (.getfield 78, 3) := by decide +kernel
theorem dX10_foldBy_201 : decode cX10_foldBy 201 = .ok (.aload_n 0, 1) := by decide +kernel
theorem dX10_foldBy_202 : decode cX10_foldBy 202 = .ok (.getfield 75, 3) := by decide +kernel
theorem dX10_foldBy_205 : decode cX10_foldBy 205 = .ok (.iload 7, 2) := by decide +kernel
theorem dX10_foldBy_207 : decode cX10_foldBy 207 = .ok (.imul, 1) := by decide +kernel
theorem dX10_foldBy_208 : decode cX10_foldBy 208 = .ok (.iload 8, 2) := by decide +kernel
theorem dX10_foldBy_210 : decode cX10_foldBy 210 = .ok (.iadd, 1) := by decide +kernel
theorem dX10_foldBy_211 : decode cX10_foldBy 211 = .ok (.imul, 1) := by decide +kernel
theorem dX10_foldBy_212 : decode cX10_foldBy 212 = .ok (.istore 11, 2) := by decide +kernel
theorem dX10_foldBy_214 : decode cX10_foldBy 214 = .ok (.aload_n 0, 1) := by decide +kernel
theorem dX10_foldBy_215 : decode cX10_foldBy 215 = .ok (.getfield 78, 3) := by decide +kernel
theorem dX10_foldBy_218 : decode cX10_foldBy 218 = .ok (.aload_n 0, 1) := by decide +kernel
theorem dX10_foldBy_219 : decode cX10_foldBy 219 = .ok (.getfield 75, 3) := by decide +kernel
theorem dX10_foldBy_222 : decode cX10_foldBy 222 = .ok (.iload 9, 2) := by decide +kernel
theorem dX10_foldBy_224 : decode cX10_foldBy 224 = .ok (.imul, 1) := by decide +kernel
theorem dX10_foldBy_225 : decode cX10_foldBy 225 = .ok (.iload 10, 2) := by decide +kernel
theorem dX10_foldBy_227 : decode cX10_foldBy 227 = .ok (.iadd, 1) := by decide +kernel
theorem dX10_foldBy_228 : decode cX10_foldBy 228 = .ok (.imul, 1) := by decide +kernel
theorem dX10_foldBy_229 : decode cX10_foldBy 229 = .ok (.istore 12, 2) := by decide +kernel
theorem dX10_foldBy_231 : decode cX10_foldBy 231 = .ok (.iconst 0, 1) := by decide +kernel
theorem dX10_foldBy_232 : decode cX10_foldBy 232 = .ok (.istore 13, 2) := by decide +kernel
theorem dX10_foldBy_234 : decode cX10_foldBy 234 = .ok (.iload 13, 2) := by decide +kernel
theorem dX10_foldBy_236 : decode cX10_foldBy 236 = .ok (.aload_n 0, 1) := by decide +kernel
theorem dX10_foldBy_237 : decode cX10_foldBy 237 = .ok (.getfield 78, 3) := by decide +kernel
theorem dX10_foldBy_240 : decode cX10_foldBy 240 = .ok (.if_icmp .ge 74, 3) := by decide +kernel
theorem dX10_foldBy_243 : decode cX10_foldBy 243 = .ok (.aload_n 0, 1) := by decide +kernel
theorem dX10_foldBy_244 : decode cX10_foldBy 244 = .ok (.iconst 2, 1) := by decide +kernel
theorem dX10_foldBy_245 : decode cX10_foldBy 245 = .ok (.aload_n 0, 1) := by decide +kernel
theorem dX10_foldBy_246 : decode cX10_foldBy 246 = .ok (.getfield 78, 3) := by decide +kernel
theorem dX10_foldBy_249 : decode cX10_foldBy 249 = .ok (.imul, 1) := by decide +kernel
theorem dX10_foldBy_250 : decode cX10_foldBy 250 = .ok (.iload 4, 2) := by decide +kernel
theorem dX10_foldBy_252 : decode cX10_foldBy 252 = .ok (.imul, 1) := by decide +kernel
theorem dX10_foldBy_253 : decode cX10_foldBy 253 = .ok (.iload 13, 2) := by decide +kernel
theorem dX10_foldBy_255 : decode cX10_foldBy 255 = .ok (.iadd, 1) := by decide +kernel
theorem dX10_foldBy_256 : decode cX10_foldBy 256 = .ok (.iload 12, 2) := by decide +kernel
theorem dX10_foldBy_258 : decode cX10_foldBy 258 = .ok (.aload_n 0, 1) := by decide +kernel
theorem dX10_foldBy_259 : decode cX10_foldBy 259 = .ok (.getfield 78, 3) := by decide +kernel
theorem dX10_foldBy_262 : decode cX10_foldBy 262 = .ok (.iadd, 1) := by decide +kernel
theorem dX10_foldBy_263 : decode cX10_foldBy 263 = .ok (.iconst 1, 1) := by decide +kernel
theorem dX10_foldBy_264 : decode cX10_foldBy 264 = .ok (.isub, 1) := by decide +kernel
theorem dX10_foldBy_265 : decode cX10_foldBy 265 = .ok (.iload 13, 2) := by decide +kernel
theorem dX10_foldBy_267 : decode cX10_foldBy 267 = .ok (.isub, 1) := by decide +kernel
theorem dX10_foldBy_268 : decode cX10_foldBy 268 = .ok (.iload_n 1, 1) := by decide +kernel
theorem dX10_foldBy_269 : decode cX10_foldBy 269 = .ok (.iconst 3, 1) := by decide +kernel
theorem dX10_foldBy_270 : decode cX10_foldBy 270 = .ok (.if_icmp .ge 7, 3) := by decide +kernel
theorem dX10_foldBy_273 : decode cX10_foldBy 273 = .ok (.iconst 1, 1) := by decide +kernel
theorem dX10_foldBy_274 : decode cX10_foldBy 274 = .ok (.goto 4, 3) := by decide +kernel
theorem dX10_foldBy_277 : decode cX10_foldBy 277 = .ok (.iconst 2, 1) := by decide +kernel
theorem dX10_foldBy_278 : decode cX10_foldBy 278 = .ok (.invokevirtual 81, 3) := by decide +kernel
theorem dX10_foldBy_281 : decode cX10_foldBy 281 = .ok (.aload_n 0, 1) := by decide +kernel
theorem dX10_foldBy_282 : decode cX10_foldBy 282 = .ok (.iconst 2, 1) := by decide +kernel
theorem dX10_foldBy_283 : decode cX10_foldBy 283 = .ok (.aload_n 0, 1) := by decide +kernel
theorem dX10_foldBy_284 : decode cX10_foldBy 284 = .ok (.getfield 78, 3) := by decide +kernel
theorem dX10_foldBy_287 : decode cX10_foldBy 287 = .ok (.imul, 1) := by decide +kernel
theorem dX10_foldBy_288 : decode cX10_foldBy 288 = .ok (.iload 4, 2) := by decide +kernel
theorem dX10_foldBy_290 : decode cX10_foldBy 290 = .ok (.imul, 1) := by decide +kernel
theorem dX10_foldBy_291 : decode cX10_foldBy 291 = .ok (.aload_n 0, 1) := by decide +kernel
theorem dX10_foldBy_292 : decode cX10_foldBy 292 = .ok (.getfield 78, 3) := by decide +kernel
theorem dX10_foldBy_295 : decode cX10_foldBy 295 = .ok (.iadd, 1) := by decide +kernel
theorem dX10_foldBy_296 : decode cX10_foldBy 296 = .ok (.iload 13, 2) := by decide +kernel
theorem dX10_foldBy_298 : decode cX10_foldBy 298 = .ok (.iadd, 1) := by decide +kernel
theorem dX10_foldBy_299 : decode cX10_foldBy 299 = .ok (.iload 11, 2) := by decide +kernel
theorem dX10_foldBy_301 : decode cX10_foldBy 301 = .ok (.iload 13, 2) := by decide +kernel
theorem dX10_foldBy_303 : decode cX10_foldBy 303 = .ok (.iadd, 1) := by decide +kernel
theorem dX10_foldBy_304 : decode cX10_foldBy 304 = .ok (.iconst 0, 1) := by decide +kernel
theorem dX10_foldBy_305 : decode cX10_foldBy 305 = .ok (.invokevirtual 81, 3) := by decide +kernel
theorem dX10_foldBy_308 : decode cX10_foldBy 308 = .ok (.iinc 13 1, 3) := by decide +kernel
theorem dX10_foldBy_311 : decode cX10_foldBy 311 = .ok (.goto (-77), 3) := by decide +kernel
theorem dX10_foldBy_314 : decode cX10_foldBy 314 = .ok (.iinc 4 1, 3) := by decide +kernel
theorem dX10_foldBy_317 : decode cX10_foldBy 317 = .ok (.goto (-214), 3) := by decide +kernel
theorem dX10_foldBy_320 : decode cX10_foldBy 320 = .ok (.aload_n 0, 1) := by decide +kernel
theorem dX10_foldBy_321 : decode cX10_foldBy 321 = .ok (.iload_n 2, 1) := by decide +kernel
theorem dX10_foldBy_322 : decode cX10_foldBy 322 = .ok (.putfield 72, 3) := by decide +kernel
theorem dX10_foldBy_325 : decode cX10_foldBy 325 = .ok (.aload_n 0, 1) := by decide +kernel
theorem dX10_foldBy_326 : decode cX10_foldBy 326 = .ok (.iload_n 3, 1) := by decide +kernel
theorem dX10_foldBy_327 : decode cX10_foldBy 327 = .ok (.putfield 75, 3) := by decide +kernel
theorem dX10_foldBy_330 : decode cX10_foldBy 330 = .ok (.aload_n 0, 1) := by decide +kernel
theorem dX10_foldBy_331 : decode cX10_foldBy 331 = .ok (.iconst 2, 1) := by decide +kernel
theorem dX10_foldBy_332 : decode cX10_foldBy 332 = .ok (.aload_n 0, 1) := by decide +kernel
theorem dX10_foldBy_333 : decode cX10_foldBy 333 = .ok (.getfield 78, 3) := by decide +kernel
theorem dX10_foldBy_336 : decode cX10_foldBy 336 = .ok (.imul, 1) := by decide +kernel
theorem dX10_foldBy_337 : decode cX10_foldBy 337 = .ok (.putfield 78, 3) := by decide +kernel
theorem dX10_foldBy_340 : decode cX10_foldBy 340 = .ok (.return_, 1) := by decide +kernel
theorem dX10_layNow_0 : decode cX10_layNow 0 = .ok (.aload_n 0, 1) := by decide +kernel
theorem dX10_layNow_1 : decode cX10_layNow 1 = .ok (.invokevirtual 85, 3) := by decide +kernel
theorem dX10_layNow_4 : decode cX10_layNow 4 = .ok (.iconst 0, 1) := by decide +kernel
theorem dX10_layNow_5 : decode cX10_layNow 5 = .ok (.istore_n 1, 1) := by decide +kernel
theorem dX10_layNow_6 : decode cX10_layNow 6 = .ok (.iload_n 1, 1) := by decide +kernel
theorem dX10_layNow_7 : decode cX10_layNow 7 = .ok (.aload_n 0, 1) := by decide +kernel
theorem dX10_layNow_8 : decode cX10_layNow 8 = .ok (.getfield 7, 3) := by decide +kernel
theorem dX10_layNow_11 : decode cX10_layNow 11 = .ok (.iconst 2, 1) := by decide +kernel
theorem dX10_layNow_12 : decode cX10_layNow 12 = .ok (.iaload, 1) := by decide +kernel
theorem dX10_layNow_13 : decode cX10_layNow 13 = .ok (.if_icmp .ge 21, 3) := by decide +kernel
theorem dX10_layNow_16 : decode cX10_layNow 16 = .ok (.aload_n 0, 1) := by decide +kernel
theorem dX10_layNow_17 : decode cX10_layNow 17 = .ok (.aload_n 0, 1) := by decide +kernel
theorem dX10_layNow_18 : decode cX10_layNow 18 = .ok (.getfield 7, 3) := by decide +kernel
theorem dX10_layNow_21 : decode cX10_layNow 21 = .ok (.iconst 3, 1) := by decide +kernel
theorem dX10_layNow_22 : decode cX10_layNow 22 = .ok (.iload_n 1, 1) := by decide +kernel
theorem dX10_layNow_23 : decode cX10_layNow 23 = .ok (.iadd, 1) := by decide +kernel
theorem dX10_layNow_24 : decode cX10_layNow 24 = .ok (.iaload, 1) := by decide +kernel
theorem dX10_layNow_25 : decode cX10_layNow 25 = .ok (.invokevirtual 88, 3) := by decide +kernel
theorem dX10_layNow_28 : decode cX10_layNow 28 = .ok (.iinc 1 1, 3) := by decide +kernel
theorem dX10_layNow_31 : decode cX10_layNow 31 = .ok (.goto (-25), 3) := by decide +kernel
theorem dX10_layNow_34 : decode cX10_layNow 34 = .ok (.return_, 1) := by decide +kernel
theorem dX10_isBooklet_0 : decode cX10_isBooklet 0 = .ok (.aload_n 0, 1) := by decide +kernel
theorem dX10_isBooklet_1 : decode cX10_isBooklet 1 = .ok (.invokevirtual 92, 3) := by decide +kernel
theorem dX10_isBooklet_4 : decode cX10_isBooklet 4 = .ok (.aload_n 0, 1) := by decide +kernel
theorem dX10_isBooklet_5 : decode cX10_isBooklet 5 = .ok (.getfield 78, 3) := by decide +kernel
theorem dX10_isBooklet_8 : decode cX10_isBooklet 8 = .ok (.aload_n 0, 1) := by decide +kernel
theorem dX10_isBooklet_9 : decode cX10_isBooklet 9 = .ok (.invokevirtual 95, 3) := by decide +kernel
theorem dX10_isBooklet_12 : decode cX10_isBooklet 12 = .ok (.if_icmp .ne 7, 3) := by decide +kernel
theorem dX10_isBooklet_15 : decode cX10_isBooklet 15 = .ok (.iconst 1, 1) := by decide +kernel
theorem dX10_isBooklet_16 : decode cX10_isBooklet 16 = .ok (.goto 4, 3) := by decide +kernel
theorem dX10_isBooklet_19 : decode cX10_isBooklet 19 = .ok (.iconst 0, 1) := by decide +kernel
theorem dX10_isBooklet_20 : decode cX10_isBooklet 20 = .ok (.ireturn, 1) := by decide +kernel
theorem dX10_layBy_0 : decode cX10_layBy 0 = .ok (.aload_n 0, 1) := by decide +kernel
theorem dX10_layBy_1 : decode cX10_layBy 1 = .ok (.invokevirtual 85, 3) := by decide +kernel
theorem dX10_layBy_4 : decode cX10_layBy 4 = .ok (.iload_n 1, 1) := by decide +kernel
theorem dX10_layBy_5 : decode cX10_layBy 5 = .ok (.ifCond .lt 10, 3) := by decide +kernel
theorem dX10_layBy_8 : decode cX10_layBy 8 = .ok (.iload_n 1, 1) := by decide +kernel
theorem dX10_layBy_9 : decode cX10_layBy 9 = .ok (.sipush 9999, 3) := by decide +kernel
theorem dX10_layBy_12 : decode cX10_layBy 12 = .ok (.if_icmp .le 5, 3) := by decide +kernel
theorem dX10_layBy_15 : decode cX10_layBy 15 = .ok (.iconst 0, 1) := by decide +kernel
theorem dX10_layBy_16 : decode cX10_layBy 16 = .ok (.ireturn, 1) := by decide +kernel
theorem dX10_layBy_17 : decode cX10_layBy 17 = .ok (.iload_n 1, 1) := by decide +kernel
theorem dX10_layBy_18 : decode cX10_layBy 18 = .ok (.sipush 999, 3) := by decide +kernel
theorem dX10_layBy_21 : decode cX10_layBy 21 = .ok (.if_icmp .le 9, 3) := by decide +kernel
theorem dX10_layBy_24 : decode cX10_layBy 24 = .ok (.sipush 1000, 3) := by decide +kernel
theorem dX10_layBy_27 : decode cX10_layBy 27 = .ok (.goto 26, 3) := by decide +kernel
theorem dX10_layBy_30 : decode cX10_layBy 30 = .ok (.iload_n 1, 1) := by decide +kernel
theorem dX10_layBy_31 : decode cX10_layBy 31 = .ok (.bipush 99, 2) := by decide +kernel
theorem dX10_layBy_33 : decode cX10_layBy 33 = .ok (.if_icmp .le 8, 3) := by decide +kernel
theorem dX10_layBy_36 : decode cX10_layBy 36 = .ok (.bipush 100, 2) := by decide +kernel
theorem dX10_layBy_38 : decode cX10_layBy 38 = .ok (.goto 15, 3) := by decide +kernel
theorem dX10_layBy_41 : decode cX10_layBy 41 = .ok (.iload_n 1, 1) := by decide +kernel
theorem dX10_layBy_42 : decode cX10_layBy 42 = .ok (.bipush 9, 2) := by decide +kernel
theorem dX10_layBy_44 : decode cX10_layBy 44 = .ok (.if_icmp .le 8, 3) := by decide +kernel
theorem dX10_layBy_47 : decode cX10_layBy 47 = .ok (.bipush 10, 2) := by decide +kernel
theorem dX10_layBy_49 : decode cX10_layBy 49 = .ok (.goto 4, 3) := by decide +kernel
theorem dX10_layBy_52 : decode cX10_layBy 52 = .ok (.iconst 1, 1) := by decide +kernel
theorem dX10_layBy_53 : decode cX10_layBy 53 = .ok (.istore_n 2, 1) := by decide +kernel
theorem dX10_layBy_54 : decode cX10_layBy 54 = .ok (.iload_n 2, 1) := by decide +kernel
theorem dX10_layBy_55 : decode cX10_layBy 55 = .ok (.istore_n 3, 1) := by decide +kernel
theorem dX10_layBy_56 : decode cX10_layBy 56 = .ok (.iload_n 1, 1) := by decide +kernel
theorem dX10_layBy_57 : decode cX10_layBy 57 = .ok (.ifCond .le 53, 3) := by decide +kernel
theorem dX10_layBy_60 : decode cX10_layBy 60 = .ok (.iload_n 3, 1) := by decide +kernel
theorem dX10_layBy_61 : decode cX10_layBy 61 = .ok (.ifCond .le 49, 3) := by decide +kernel
theorem dX10_layBy_64 : decode cX10_layBy 64 = .ok (.iload_n 1, 1) := by decide +kernel
theorem dX10_layBy_65 : decode cX10_layBy 65 = .ok (.iload_n 3, 1) := by decide +kernel
theorem dX10_layBy_66 : decode cX10_layBy 66 = .ok (.idiv, 1) := by decide +kernel
theorem dX10_layBy_67 : decode cX10_layBy 67 = .ok (.bipush 10, 2) := by decide +kernel
theorem dX10_layBy_69 : decode cX10_layBy 69 = .ok (.irem, 1) := by decide +kernel
theorem dX10_layBy_70 : decode cX10_layBy 70 = .ok (.istore 4, 2) := by decide +kernel
theorem dX10_layBy_72 : decode cX10_layBy 72 = .ok (.iload 4, 2) := by decide +kernel
theorem dX10_layBy_74 : decode cX10_layBy 74 = .ok (.i2l, 1) := by decide +kernel
theorem dX10_layBy_75 : decode cX10_layBy 75 = .ok (.lconst 1, 1) := by decide +kernel
theorem dX10_layBy_76 : decode cX10_layBy 76 = .ok (.ldc2_w 99, 3) := by decide +kernel
theorem dX10_layBy_79 : decode cX10_layBy 79 = .ok (.invokestatic 101, 3) := by decide +kernel
theorem dX10_layBy_82 : decode cX10_layBy 82 = .ok (.ifCond .eq 12, 3) := by decide +kernel
theorem dX10_layBy_85 : decode cX10_layBy 85 = .ok (.aload_n 0, 1) := by decide +kernel
theorem dX10_layBy_86 : decode cX10_layBy 86 = .ok (.iload 4, 2) := by decide +kernel
theorem dX10_layBy_88 : decode cX10_layBy 88 = .ok (.invokevirtual 105, 3) := by decide +kernel
theorem dX10_layBy_91 : decode cX10_layBy 91 = .ok (.ifCond .ne 5, 3) := by decide +kernel
theorem dX10_layBy_94 : decode cX10_layBy 94 = .ok (.iconst 0, 1) := by decide +kernel
theorem dX10_layBy_95 : decode cX10_layBy 95 = .ok (.ireturn, 1) := by decide +kernel
theorem dX10_layBy_96 : decode cX10_layBy 96 = .ok (.aload_n 0, 1) := by decide +kernel
theorem dX10_layBy_97 : decode cX10_layBy 97 = .ok (.iload 4, 2) := by decide +kernel
theorem dX10_layBy_99 : decode cX10_layBy 99 = .ok (.invokevirtual 88, 3) := by decide +kernel
theorem dX10_layBy_102 : decode cX10_layBy 102 = .ok (.iload_n 3, 1) := by decide +kernel
theorem dX10_layBy_103 : decode cX10_layBy 103 = .ok (.bipush 10, 2) := by decide +kernel
theorem dX10_layBy_105 : decode cX10_layBy 105 = .ok (.idiv, 1) := by decide +kernel
theorem dX10_layBy_106 : decode cX10_layBy 106 = .ok (.istore_n 3, 1) := by decide +kernel
theorem dX10_layBy_107 : decode cX10_layBy 107 = .ok (.goto (-51), 3) := by decide +kernel
theorem dX10_layBy_110 : decode cX10_layBy 110 = .ok (.aload_n 0, 1) := by decide +kernel
theorem dX10_layBy_111 : decode cX10_layBy 111 = .ok (.getfield 78, 3) := by decide +kernel
theorem dX10_layBy_114 : decode cX10_layBy 114 = .ok (.aload_n 0, 1) := by decide +kernel
theorem dX10_layBy_115 : decode cX10_layBy 115 = .ok (.invokevirtual 95, 3) := by decide +kernel
theorem dX10_layBy_118 : decode cX10_layBy 118 = .ok (.if_icmp .ne 7, 3) := by decide +kernel
theorem dX10_layBy_121 : decode cX10_layBy 121 = .ok (.iconst 1, 1) := by decide +kernel
theorem dX10_layBy_122 : decode cX10_layBy 122 = .ok (.goto 4, 3) := by decide +kernel
theorem dX10_layBy_125 : decode cX10_layBy 125 = .ok (.iconst 0, 1) := by decide +kernel
theorem dX10_layBy_126 : decode cX10_layBy 126 = .ok (.ireturn, 1) := by decide +kernel
theorem dX10_sideOf_0 : decode cX10_sideOf 0 = .ok (.iload_n 1, 1) := by decide +kernel
theorem dX10_sideOf_1 : decode cX10_sideOf 1 = .ok (.iconst 2, 1) := by decide +kernel
theorem dX10_sideOf_2 : decode cX10_sideOf 2 = .ok (.idiv, 1) := by decide +kernel
theorem dX10_sideOf_3 : decode cX10_sideOf 3 = .ok (.istore_n 2, 1) := by decide +kernel
theorem dX10_sideOf_4 : decode cX10_sideOf 4 = .ok (.iconst 2, 1) := by decide +kernel
theorem dX10_sideOf_5 : decode cX10_sideOf 5 = .ok (.aload_n 0, 1) := by decide +kernel
theorem dX10_sideOf_6 : decode cX10_sideOf 6 = .ok (.getfield 22, 3) := by decide +kernel
theorem dX10_sideOf_9 : decode cX10_sideOf 9 = .ok (.iload_n 2, 1) := by decide +kernel
theorem dX10_sideOf_10 : decode cX10_sideOf 10 = .ok (.iaload, 1) := by decide +kernel
theorem dX10_sideOf_11 : decode cX10_sideOf 11 = .ok (.imul, 1) := by decide +kernel
theorem dX10_sideOf_12 : decode cX10_sideOf 12 = .ok (.iload_n 1, 1) := by decide +kernel
theorem dX10_sideOf_13 : decode cX10_sideOf 13 = .ok (.iconst 2, 1) := by decide +kernel
theorem dX10_sideOf_14 : decode cX10_sideOf 14 = .ok (.irem, 1) := by decide +kernel
theorem dX10_sideOf_15 : decode cX10_sideOf 15 = .ok (.ifCond .ne 12, 3) := by decide +kernel
theorem dX10_sideOf_18 : decode cX10_sideOf 18 = .ok (.aload_n 0, 1) := by decide +kernel
theorem dX10_sideOf_19 : decode cX10_sideOf 19 = .ok (.getfield 25, 3) := by decide +kernel
theorem dX10_sideOf_22 : decode cX10_sideOf 22 = .ok (.iload_n 2, 1) := by decide +kernel
theorem dX10_sideOf_23 : decode cX10_sideOf 23 = .ok (.iaload, 1) := by decide +kernel
theorem dX10_sideOf_24 : decode cX10_sideOf 24 = .ok (.goto 11, 3) := by decide +kernel
theorem dX10_sideOf_27 : decode cX10_sideOf 27 = .ok (.iconst 1, 1) := by decide +kernel
theorem dX10_sideOf_28 : decode cX10_sideOf 28 = .ok (.aload_n 0, 1) := by decide +kernel
theorem dX10_sideOf_29 : decode cX10_sideOf 29 = .ok (.getfield 25, 3) := by decide +kernel
theorem dX10_sideOf_32 : decode cX10_sideOf 32 = .ok (.iload_n 2, 1) := by decide +kernel
theorem dX10_sideOf_33 : decode cX10_sideOf 33 = .ok (.iaload, 1) := by decide +kernel
theorem dX10_sideOf_34 : decode cX10_sideOf 34 = .ok (.isub, 1) := by decide +kernel
theorem dX10_sideOf_35 : decode cX10_sideOf 35 = .ok (.iadd, 1) := by decide +kernel
theorem dX10_sideOf_36 : decode cX10_sideOf 36 = .ok (.ireturn, 1) := by decide +kernel
theorem dX10_turnOf_0 : decode cX10_turnOf 0 = .ok (.aload_n 0, 1) := by decide +kernel
theorem dX10_turnOf_1 : decode cX10_turnOf 1 = .ok (.getfield 31, 3) := by decide +kernel
theorem dX10_turnOf_4 : decode cX10_turnOf 4 = .ok (.iload_n 1, 1) := by decide +kernel
theorem dX10_turnOf_5 : decode cX10_turnOf 5 = .ok (.iconst 2, 1) := by decide +kernel
theorem dX10_turnOf_6 : decode cX10_turnOf 6 = .ok (.idiv, 1) := by decide +kernel
theorem dX10_turnOf_7 : decode cX10_turnOf 7 = .ok (.iaload, 1) := by decide +kernel
theorem dX10_turnOf_8 : decode cX10_turnOf 8 = .ok (.aload_n 0, 1) := by decide +kernel
theorem dX10_turnOf_9 : decode cX10_turnOf 9 = .ok (.getfield 7, 3) := by decide +kernel
theorem dX10_turnOf_12 : decode cX10_turnOf 12 = .ok (.bipush 7, 2) := by decide +kernel
theorem dX10_turnOf_14 : decode cX10_turnOf 14 = .ok (.iaload, 1) := by decide +kernel
theorem dX10_turnOf_15 : decode cX10_turnOf 15 = .ok (.iconst 1, 1) := by decide +kernel
theorem dX10_turnOf_16 : decode cX10_turnOf 16 = .ok (.if_icmp .ne 14, 3) := by decide +kernel
theorem dX10_turnOf_19 : decode cX10_turnOf 19 = .ok (.iload_n 1, 1) := by decide +kernel
theorem dX10_turnOf_20 : decode cX10_turnOf 20 = .ok (.iconst 2, 1) := by decide +kernel
theorem dX10_turnOf_21 : decode cX10_turnOf 21 = .ok (.irem, 1) := by decide +kernel
theorem dX10_turnOf_22 : decode cX10_turnOf 22 = .ok (.iconst 1, 1) := by decide +kernel
theorem dX10_turnOf_23 : decode cX10_turnOf 23 = .ok (.if_icmp .ne 7, 3) := by decide +kernel
theorem dX10_turnOf_26 : decode cX10_turnOf 26 = .ok (.iconst 1, 1) := by decide +kernel
theorem dX10_turnOf_27 : decode cX10_turnOf 27 = .ok (.goto 4, 3) := by decide +kernel
theorem dX10_turnOf_30 : decode cX10_turnOf 30 = .ok (.iconst 0, 1) := by decide +kernel
theorem dX10_turnOf_31 : decode cX10_turnOf 31 = .ok (.ixor, 1) := by decide +kernel
theorem dX10_turnOf_32 : decode cX10_turnOf 32 = .ok (.ireturn, 1) := by decide +kernel
theorem dX10_isUpright_0 : decode cX10_isUpright 0 = .ok (.aload_n 0, 1) := by decide +kernel
theorem dX10_isUpright_1 : decode cX10_isUpright 1 = .ok (.iload_n 1, 1) := by decide +kernel
theorem dX10_isUpright_2 : decode cX10_isUpright 2 = .ok (.invokevirtual 109, 3) := by decide +kernel
theorem dX10_isUpright_5 : decode cX10_isUpright 5 = .ok (.aload_n 0, 1) := by decide +kernel
theorem dX10_isUpright_6 : decode cX10_isUpright 6 = .ok (.getfield 7, 3) := by decide +kernel
theorem dX10_isUpright_9 : decode cX10_isUpright 9 = .ok (.bipush 122, 2) := by decide +kernel
theorem dX10_isUpright_11 : decode cX10_isUpright 11 = .ok (.aload_n 0, 1) := by decide +kernel
theorem dX10_isUpright_12 : decode cX10_isUpright 12 = .ok (.iload_n 1, 1) := by decide +kernel
theorem dX10_isUpright_13 : decode cX10_isUpright 13 = .ok (.invokevirtual 113, 3) := by decide +kernel
theorem dX10_isUpright_16 : decode cX10_isUpright 16 = .ok (.iadd, 1) := by decide +kernel
theorem dX10_isUpright_17 : decode cX10_isUpright 17 = .ok (.iaload, 1) := by decide +kernel
theorem dX10_isUpright_18 : decode cX10_isUpright 18 = .ok (.if_icmp .ne 7, 3) := by decide +kernel
theorem dX10_isUpright_21 : decode cX10_isUpright 21 = .ok (.iconst 1, 1) := by decide +kernel
theorem dX10_isUpright_22 : decode cX10_isUpright 22 = .ok (.goto 4, 3) := by decide +kernel
theorem dX10_isUpright_25 : decode cX10_isUpright 25 = .ok (.iconst 0, 1) := by decide +kernel
theorem dX10_isUpright_26 : decode cX10_isUpright 26 = .ok (.ireturn, 1) := by decide +kernel
theorem dX10_printedOn_0 : decode cX10_printedOn 0 = .ok (.aload_n 0, 1) := by decide +kernel
theorem dX10_printedOn_1 : decode cX10_printedOn 1 = .ok (.getfield 7, 3) := by decide +kernel
theorem dX10_printedOn_4 : decode cX10_printedOn 4 = .ok (.bipush 90, 2) := by decide +kernel
theorem dX10_printedOn_6 : decode cX10_printedOn 6 = .ok (.aload_n 0, 1) := by decide +kernel
theorem dX10_printedOn_7 : decode cX10_printedOn 7 = .ok (.iload_n 1, 1) := by decide +kernel
theorem dX10_printedOn_8 : decode cX10_printedOn 8 = .ok (.invokevirtual 113, 3) := by decide +kernel
theorem dX10_printedOn_11 : decode cX10_printedOn 11 = .ok (.iadd, 1) := by decide +kernel
theorem dX10_printedOn_12 : decode cX10_printedOn 12 = .ok (.iaload, 1) := by decide +kernel
theorem dX10_printedOn_13 : decode cX10_printedOn 13 = .ok (.ireturn, 1) := by decide +kernel
theorem dX10_spineEdge_0 : decode cX10_spineEdge 0 = .ok (.aload_n 0, 1) := by decide +kernel
theorem dX10_spineEdge_1 : decode cX10_spineEdge 1 = .ok (.getfield 7, 3) := by decide +kernel
theorem dX10_spineEdge_4 : decode cX10_spineEdge 4 = .ok (.bipush 7, 2) := by decide +kernel
theorem dX10_spineEdge_6 : decode cX10_spineEdge 6 = .ok (.iaload, 1) := by decide +kernel
theorem dX10_spineEdge_7 : decode cX10_spineEdge 7 = .ok (.ifCond .ne 7, 3) := by decide +kernel
theorem dX10_spineEdge_10 : decode cX10_spineEdge 10 = .ok (.iconst 0, 1) := by decide +kernel
theorem dX10_spineEdge_11 : decode cX10_spineEdge 11 = .ok (.goto 4, 3) := by decide +kernel
theorem dX10_spineEdge_14 : decode cX10_spineEdge 14 = .ok (.iconst 2, 1) := by decide +kernel
theorem dX10_spineEdge_15 : decode cX10_spineEdge 15 = .ok (.ireturn, 1) := by decide +kernel
theorem dX10_edgeOf_0 : decode cX10_edgeOf 0 = .ok (.aload_n 0, 1) := by decide +kernel
theorem dX10_edgeOf_1 : decode cX10_edgeOf 1 = .ok (.getfield 22, 3) := by decide +kernel
theorem dX10_edgeOf_4 : decode cX10_edgeOf 4 = .ok (.iload_n 1, 1) := by decide +kernel
theorem dX10_edgeOf_5 : decode cX10_edgeOf 5 = .ok (.iaload, 1) := by decide +kernel
theorem dX10_edgeOf_6 : decode cX10_edgeOf 6 = .ok (.aload_n 0, 1) := by decide +kernel
theorem dX10_edgeOf_7 : decode cX10_edgeOf 7 = .ok (.getfield 22, 3) := by decide +kernel
theorem dX10_edgeOf_10 : decode cX10_edgeOf 10 = .ok (.iload_n 2, 1) := by decide +kernel
theorem dX10_edgeOf_11 : decode cX10_edgeOf 11 = .ok (.iaload, 1) := by decide +kernel
theorem dX10_edgeOf_12 : decode cX10_edgeOf 12 = .ok (.if_icmp .ge 7, 3) := by decide +kernel
theorem dX10_edgeOf_15 : decode cX10_edgeOf 15 = .ok (.iload_n 1, 1) := by decide +kernel
theorem dX10_edgeOf_16 : decode cX10_edgeOf 16 = .ok (.goto 4, 3) := by decide +kernel
theorem dX10_edgeOf_19 : decode cX10_edgeOf 19 = .ok (.iload_n 2, 1) := by decide +kernel
theorem dX10_edgeOf_20 : decode cX10_edgeOf 20 = .ok (.istore_n 3, 1) := by decide +kernel
theorem dX10_edgeOf_21 : decode cX10_edgeOf 21 = .ok (.aload_n 0, 1) := by decide +kernel
theorem dX10_edgeOf_22 : decode cX10_edgeOf 22 = .ok (.getfield 7, 3) := by decide +kernel
theorem dX10_edgeOf_25 : decode cX10_edgeOf 25 = .ok (.iconst 1, 1) := by decide +kernel
theorem dX10_edgeOf_26 : decode cX10_edgeOf 26 = .ok (.iaload, 1) := by decide +kernel
theorem dX10_edgeOf_27 : decode cX10_edgeOf 27 = .ok (.istore 4, 2) := by decide +kernel
theorem dX10_edgeOf_29 : decode cX10_edgeOf 29 = .ok (.aload_n 0, 1) := by decide +kernel
theorem dX10_edgeOf_30 : decode cX10_edgeOf 30 = .ok (.getfield 22, 3) := by decide +kernel
theorem dX10_edgeOf_33 : decode cX10_edgeOf 33 = .ok (.iload_n 3, 1) := by decide +kernel
theorem dX10_edgeOf_34 : decode cX10_edgeOf 34 = .ok (.iaload, 1) := by decide +kernel
theorem dX10_edgeOf_35 : decode cX10_edgeOf 35 = .ok (.istore 5, 2) := by decide +kernel
theorem dX10_edgeOf_37 : decode cX10_edgeOf 37 = .ok (.aload_n 0, 1) := by decide +kernel
theorem dX10_edgeOf_38 : decode cX10_edgeOf 38 = .ok (.getfield 22, 3) := by decide +kernel
theorem dX10_edgeOf_41 : decode cX10_edgeOf 41 = .ok (.iload_n 1, 1) := by decide +kernel
theorem dX10_edgeOf_42 : decode cX10_edgeOf 42 = .ok (.iload_n 2, 1) := by decide +kernel
theorem dX10_edgeOf_43 : decode cX10_edgeOf 43 = .ok (.iadd, 1) := by decide +kernel
theorem dX10_edgeOf_44 : decode cX10_edgeOf 44 = .ok (.iload_n 3, 1) := by decide +kernel
theorem dX10_edgeOf_45 : decode cX10_edgeOf 45 = .ok (.isub, 1) := by decide +kernel
theorem dX10_edgeOf_46 : decode cX10_edgeOf 46 = .ok (.iaload, 1) := by decide +kernel
theorem dX10_edgeOf_47 : decode cX10_edgeOf 47 = .ok (.istore 6, 2) := by decide +kernel
theorem dX10_edgeOf_49 : decode cX10_edgeOf 49 = .ok (.iload 6, 2) := by decide +kernel
theorem dX10_edgeOf_51 : decode cX10_edgeOf 51 = .ok (.iload 5, 2) := by decide +kernel
theorem dX10_edgeOf_53 : decode cX10_edgeOf 53 = .ok (.iconst 1, 1) := by decide +kernel
theorem dX10_edgeOf_54 : decode cX10_edgeOf 54 = .ok (.iadd, 1) := by decide +kernel
theorem dX10_edgeOf_55 : decode cX10_edgeOf 55 = .ok (.if_icmp .ne 26, 3) := by decide +kernel
theorem dX10_edgeOf_58 : decode cX10_edgeOf 58 = .ok (.iload 6, 2) := by decide +kernel
theorem dX10_edgeOf_60 : decode cX10_edgeOf 60 = .ok (.iload 4, 2) := by decide +kernel
theorem dX10_edgeOf_62 : decode cX10_edgeOf 62 = .ok (.irem, 1) := by decide +kernel
theorem dX10_edgeOf_63 : decode cX10_edgeOf 63 = .ok (.ifCond .le 18, 3) := by decide +kernel
theorem dX10_edgeOf_66 : decode cX10_edgeOf 66 = .ok (.aload_n 0, 1) := by decide +kernel
theorem dX10_edgeOf_67 : decode cX10_edgeOf 67 = .ok (.getfield 28, 3) := by decide +kernel
theorem dX10_edgeOf_70 : decode cX10_edgeOf 70 = .ok (.iload_n 3, 1) := by decide +kernel
theorem dX10_edgeOf_71 : decode cX10_edgeOf 71 = .ok (.iaload, 1) := by decide +kernel
theorem dX10_edgeOf_72 : decode cX10_edgeOf 72 = .ok (.ifCond .ne 7, 3) := by decide +kernel
theorem dX10_edgeOf_75 : decode cX10_edgeOf 75 = .ok (.iconst 1, 1) := by decide +kernel
theorem dX10_edgeOf_76 : decode cX10_edgeOf 76 = .ok (.goto 4, 3) := by decide +kernel
theorem dX10_edgeOf_79 : decode cX10_edgeOf 79 = .ok (.iconst 0, 1) := by decide +kernel
theorem dX10_edgeOf_80 : decode cX10_edgeOf 80 = .ok (.ireturn, 1) := by decide +kernel
theorem dX10_edgeOf_81 : decode cX10_edgeOf 81 = .ok (.iload 6, 2) := by decide +kernel
theorem dX10_edgeOf_83 : decode cX10_edgeOf 83 = .ok (.iload 5, 2) := by decide +kernel
theorem dX10_edgeOf_85 : decode cX10_edgeOf 85 = .ok (.iload 4, 2) := by decide +kernel
theorem dX10_edgeOf_87 : decode cX10_edgeOf 87 = .ok (.iadd, 1) := by decide +kernel
theorem dX10_edgeOf_88 : decode cX10_edgeOf 88 = .ok (.if_icmp .ne 20, 3) := by decide +kernel
theorem dX10_edgeOf_91 : decode cX10_edgeOf 91 = .ok (.aload_n 0, 1) := by decide +kernel
theorem dX10_edgeOf_92 : decode cX10_edgeOf 92 = .ok (.getfield 31, 3) := by decide +kernel
theorem dX10_edgeOf_95 : decode cX10_edgeOf 95 = .ok (.iload_n 3, 1) := by decide +kernel
theorem dX10_edgeOf_96 : decode cX10_edgeOf 96 = .ok (.iaload, 1) := by decide +kernel
theorem dX10_edgeOf_97 : decode cX10_edgeOf 97 = .ok (.ifCond .ne 7, 3) := by decide +kernel
theorem dX10_edgeOf_100 : decode cX10_edgeOf 100 = .ok (.iconst 3, 1) := by decide +kernel
theorem dX10_edgeOf_101 : decode cX10_edgeOf 101 = .ok (.goto 8, 3) := by decide +kernel
theorem dX10_edgeOf_104 : decode cX10_edgeOf 104 = .ok (.iconst 2, 1) := by decide +kernel
theorem dX10_edgeOf_105 : decode cX10_edgeOf 105 = .ok (.goto 4, 3) := by decide +kernel
theorem dX10_edgeOf_108 : decode cX10_edgeOf 108 = .ok (.iconst (-1), 1) := by decide +kernel
theorem dX10_edgeOf_109 : decode cX10_edgeOf 109 = .ok (.ireturn, 1) := by decide +kernel
theorem dX10_shutBy_0 : decode cX10_shutBy 0 = .ok (.iconst 0, 1) := by decide +kernel
theorem dX10_shutBy_1 : decode cX10_shutBy 1 = .ok (.istore_n 3, 1) := by decide +kernel
theorem dX10_shutBy_2 : decode cX10_shutBy 2 = .ok (.iconst 0, 1) := by decide +kernel
theorem dX10_shutBy_3 : decode cX10_shutBy 3 = .ok (.istore 4, 2) := by decide +kernel
theorem dX10_shutBy_5 : decode cX10_shutBy 5 = .ok (.iload 4, 2) := by decide +kernel
theorem dX10_shutBy_7 : decode cX10_shutBy 7 = .ok (.iload_n 1, 1) := by decide +kernel
theorem dX10_shutBy_8 : decode cX10_shutBy 8 = .ok (.if_icmp .ge 71, 3) := by decide +kernel
theorem dX10_shutBy_11 : decode cX10_shutBy 11 = .ok (.iload_n 1, 1) := by decide +kernel
theorem dX10_shutBy_12 : decode cX10_shutBy 12 = .ok (.istore 5, 2) := by decide +kernel
theorem dX10_shutBy_14 : decode cX10_shutBy 14 = .ok (.iload 5, 2) := by decide +kernel
theorem dX10_shutBy_16 : decode cX10_shutBy 16 = .ok (.aload_n 0, 1) := by decide +kernel
theorem dX10_shutBy_17 : decode cX10_shutBy 17 = .ok (.getfield 78, 3) := by decide +kernel
theorem dX10_shutBy_20 : decode cX10_shutBy 20 = .ok (.if_icmp .ge 53, 3) := by decide +kernel
theorem dX10_shutBy_23 : decode cX10_shutBy 23 = .ok (.aload_n 0, 1) := by decide +kernel
theorem dX10_shutBy_24 : decode cX10_shutBy 24 = .ok (.iload 4, 2) := by decide +kernel
theorem dX10_shutBy_26 : decode cX10_shutBy 26 = .ok (.iload 5, 2) := by decide +kernel
theorem dX10_shutBy_28 : decode cX10_shutBy 28 = .ok (.invokevirtual 116, 3) := by decide +kernel
theorem dX10_shutBy_31 : decode cX10_shutBy 31 = .ok (.istore 6, 2) := by decide +kernel
theorem dX10_shutBy_33 : decode cX10_shutBy 33 = .ok (.iload_n 3, 1) := by decide +kernel
theorem dX10_shutBy_34 : decode cX10_shutBy 34 = .ok (.iload 6, 2) := by decide +kernel
theorem dX10_shutBy_36 : decode cX10_shutBy 36 = .ok (.ifCond .lt 28, 3) := by decide +kernel
theorem dX10_shutBy_39 : decode cX10_shutBy 39 = .ok (.iload_n 2, 1) := by decide +kernel
theorem dX10_shutBy_40 : decode cX10_shutBy 40 = .ok (.iload 6, 2) := by decide +kernel
theorem dX10_shutBy_42 : decode cX10_shutBy 42 = .ok (.invokestatic 120, 3) := by decide +kernel
theorem dX10_shutBy_45 : decode cX10_shutBy 45 = .ok (.ifCond .ne 19, 3) := by decide +kernel
theorem dX10_shutBy_48 : decode cX10_shutBy 48 = .ok (.iload 6, 2) := by decide +kernel
theorem dX10_shutBy_50 : decode cX10_shutBy 50 = .ok (.aload_n 0, 1) := by decide +kernel
theorem dX10_shutBy_51 : decode cX10_shutBy 51 = .ok (.invokevirtual 124, 3) := by decide +kernel
theorem dX10_shutBy_54 : decode cX10_shutBy 54 = .ok (.if_icmp .eq 10, 3) := by decide +kernel
theorem dX10_shutBy_57 : decode cX10_shutBy 57 = .ok (.iconst 1, 1) := by decide +kernel
theorem dX10_shutBy_58 : decode cX10_shutBy 58 = .ok (.iload 6, 2) := by decide +kernel
theorem dX10_shutBy_60 : decode cX10_shutBy 60 = .ok (.ishl, 1) := by decide +kernel
theorem dX10_shutBy_61 : decode cX10_shutBy 61 = .ok (.goto 4, 3) := by decide +kernel
theorem dX10_shutBy_64 : decode cX10_shutBy 64 = .ok (.iconst 0, 1) := by decide +kernel
theorem dX10_shutBy_65 : decode cX10_shutBy 65 = .ok (.ior, 1) := by decide +kernel
theorem dX10_shutBy_66 : decode cX10_shutBy 66 = .ok (.istore_n 3, 1) := by decide +kernel
theorem dX10_shutBy_67 : decode cX10_shutBy 67 = .ok (.iinc 5 1, 3) := by decide +kernel
theorem dX10_shutBy_70 : decode cX10_shutBy 70 = .ok (.goto (-56), 3) := by decide +kernel
theorem dX10_shutBy_73 : decode cX10_shutBy 73 = .ok (.iinc 4 1, 3) := by decide +kernel
theorem dX10_shutBy_76 : decode cX10_shutBy 76 = .ok (.goto (-71), 3) := by decide +kernel
theorem dX10_shutBy_79 : decode cX10_shutBy 79 = .ok (.iload_n 3, 1) := by decide +kernel
theorem dX10_shutBy_80 : decode cX10_shutBy 80 = .ok (.ireturn, 1) := by decide +kernel
theorem dX10_isHidden_0 : decode cX10_isHidden 0 = .ok (.aload_n 0, 1) := by decide +kernel
theorem dX10_isHidden_1 : decode cX10_isHidden 1 = .ok (.iload_n 1, 1) := by decide +kernel
theorem dX10_isHidden_2 : decode cX10_isHidden 2 = .ok (.iconst 1, 1) := by decide +kernel
theorem dX10_isHidden_3 : decode cX10_isHidden 3 = .ok (.iadd, 1) := by decide +kernel
theorem dX10_isHidden_4 : decode cX10_isHidden 4 = .ok (.iconst 2, 1) := by decide +kernel
theorem dX10_isHidden_5 : decode cX10_isHidden 5 = .ok (.idiv, 1) := by decide +kernel
theorem dX10_isHidden_6 : decode cX10_isHidden 6 = .ok (.aload_n 0, 1) := by decide +kernel
theorem dX10_isHidden_7 : decode cX10_isHidden 7 = .ok (.getfield 7, 3) := by decide +kernel
theorem dX10_isHidden_10 : decode cX10_isHidden 10 = .ok (.bipush 8, 2) := by decide +kernel
theorem dX10_isHidden_12 : decode cX10_isHidden 12 = .ok (.iaload, 1) := by decide +kernel
theorem dX10_isHidden_13 : decode cX10_isHidden 13 = .ok (.invokevirtual 127, 3) := by decide +kernel
theorem dX10_isHidden_16 : decode cX10_isHidden 16 = .ok (.ifCond .eq 7, 3) := by decide +kernel
theorem dX10_isHidden_19 : decode cX10_isHidden 19 = .ok (.iconst 1, 1) := by decide +kernel
theorem dX10_isHidden_20 : decode cX10_isHidden 20 = .ok (.goto 4, 3) := by decide +kernel
theorem dX10_isHidden_23 : decode cX10_isHidden 23 = .ok (.iconst 0, 1) := by decide +kernel
theorem dX10_isHidden_24 : decode cX10_isHidden 24 = .ok (.ireturn, 1) := by decide +kernel
theorem dX10_isItsOwn_0 : decode cX10_isItsOwn 0 = .ok (.aload_n 0, 1) := by decide +kernel
theorem dX10_isItsOwn_1 : decode cX10_isItsOwn 1 = .ok (.iload_n 1, 1) := by decide +kernel
theorem dX10_isItsOwn_2 : decode cX10_isItsOwn 2 = .ok (.invokevirtual 130, 3) := by decide +kernel
theorem dX10_isItsOwn_5 : decode cX10_isItsOwn 5 = .ok (.iload_n 1, 1) := by decide +kernel
theorem dX10_isItsOwn_6 : decode cX10_isItsOwn 6 = .ok (.if_icmp .ne 15, 3) := by decide +kernel
theorem dX10_isItsOwn_9 : decode cX10_isItsOwn 9 = .ok (.aload_n 0, 1) := by decide +kernel
theorem dX10_isItsOwn_10 : decode cX10_isItsOwn 10 = .ok (.iload_n 1, 1) := by decide +kernel
theorem dX10_isItsOwn_11 : decode cX10_isItsOwn 11 = .ok (.invokevirtual 133, 3) := by decide +kernel
theorem dX10_isItsOwn_14 : decode cX10_isItsOwn 14 = .ok (.ifCond .eq 7, 3) := by decide +kernel
theorem dX10_isItsOwn_17 : decode cX10_isItsOwn 17 = .ok (.iconst 1, 1) := by decide +kernel
theorem dX10_isItsOwn_18 : decode cX10_isItsOwn 18 = .ok (.goto 4, 3) := by decide +kernel
theorem dX10_isItsOwn_21 : decode cX10_isItsOwn 21 = .ok (.iconst 0, 1) := by decide +kernel
theorem dX10_isItsOwn_22 : decode cX10_isItsOwn 22 = .ok (.ireturn, 1) := by decide +kernel
theorem dX10_isSide_0 : decode cX10_isSide 0 = .ok (.iload_n 0, 1) := by decide +kernel
theorem dX10_isSide_1 : decode cX10_isSide 1 = .ok (.iconst 1, 1) := by decide +kernel
theorem dX10_isSide_2 : decode cX10_isSide 2 = .ok (.if_icmp .eq 13, 3) := by decide +kernel
theorem dX10_isSide_5 : decode cX10_isSide 5 = .ok (.iload_n 0, 1) := by decide +kernel
theorem dX10_isSide_6 : decode cX10_isSide 6 = .ok (.iconst 2, 1) := by decide +kernel
theorem dX10_isSide_7 : decode cX10_isSide 7 = .ok (.if_icmp .eq 8, 3) := by decide +kernel
theorem dX10_isSide_10 : decode cX10_isSide 10 = .ok (.iload_n 0, 1) := by decide +kernel
theorem dX10_isSide_11 : decode cX10_isSide 11 = .ok (.iconst 4, 1) := by decide +kernel
theorem dX10_isSide_12 : decode cX10_isSide 12 = .ok (.if_icmp .ne 7, 3) := by decide +kernel
theorem dX10_isSide_15 : decode cX10_isSide 15 = .ok (.iconst 1, 1) := by decide +kernel
theorem dX10_isSide_16 : decode cX10_isSide 16 = .ok (.goto 4, 3) := by decide +kernel
theorem dX10_isSide_19 : decode cX10_isSide 19 = .ok (.iconst 0, 1) := by decide +kernel
theorem dX10_isSide_20 : decode cX10_isSide 20 = .ok (.ireturn, 1) := by decide +kernel
theorem dX10_setSheet_0 : decode cX10_setSheet 0 = .ok (.iload_n 1, 1) := by decide +kernel
theorem dX10_setSheet_1 : decode cX10_setSheet 1 = .ok (.invokestatic 136, 3) := by decide +kernel
theorem dX10_setSheet_4 : decode cX10_setSheet 4 = .ok (.ifCond .eq 10, 3) := by decide +kernel
theorem dX10_setSheet_7 : decode cX10_setSheet 7 = .ok (.iload_n 2, 1) := by decide +kernel
theorem dX10_setSheet_8 : decode cX10_setSheet 8 = .ok (.invokestatic 136, 3) := by decide +kernel
theorem dX10_setSheet_11 : decode cX10_setSheet 11 = .ok (.ifCond .ne 5, 3) := by decide +kernel
theorem dX10_setSheet_14 : decode cX10_setSheet 14 = .ok (.iconst (-1), 1) := by decide +kernel
theorem dX10_setSheet_15 : decode cX10_setSheet 15 = .ok (.ireturn, 1) := by decide +kernel
theorem dX10_setSheet_16 : decode cX10_setSheet 16 = .ok (.aload_n 0, 1) := by decide +kernel
theorem dX10_setSheet_17 : decode cX10_setSheet 17 = .ok (.invokevirtual 139, 3) := by decide +kernel
theorem dX10_setSheet_20 : decode cX10_setSheet 20 = .ok (.aload_n 0, 1) := by decide +kernel
theorem dX10_setSheet_21 : decode cX10_setSheet 21 = .ok (.getfield 7, 3) := by decide +kernel
theorem dX10_setSheet_24 : decode cX10_setSheet 24 = .ok (.iconst 0, 1) := by decide +kernel
theorem dX10_setSheet_25 : decode cX10_setSheet 25 = .ok (.iload_n 1, 1) := by decide +kernel
theorem dX10_setSheet_26 : decode cX10_setSheet 26 = .ok (.iastore, 1) := by decide +kernel
theorem dX10_setSheet_27 : decode cX10_setSheet 27 = .ok (.aload_n 0, 1) := by decide +kernel
theorem dX10_setSheet_28 : decode cX10_setSheet 28 = .ok (.getfield 7, 3) := by decide +kernel
theorem dX10_setSheet_31 : decode cX10_setSheet 31 = .ok (.iconst 1, 1) := by decide +kernel
theorem dX10_setSheet_32 : decode cX10_setSheet 32 = .ok (.iload_n 2, 1) := by decide +kernel
theorem dX10_setSheet_33 : decode cX10_setSheet 33 = .ok (.iastore, 1) := by decide +kernel
theorem dX10_setSheet_34 : decode cX10_setSheet 34 = .ok (.aload_n 0, 1) := by decide +kernel
theorem dX10_setSheet_35 : decode cX10_setSheet 35 = .ok (.getfield 7, 3) := by decide +kernel
theorem dX10_setSheet_38 : decode cX10_setSheet 38 = .ok (.iconst 2, 1) := by decide +kernel
theorem dX10_setSheet_39 : decode cX10_setSheet 39 = .ok (.iconst 0, 1) := by decide +kernel
theorem dX10_setSheet_40 : decode cX10_setSheet 40 = .ok (.iastore, 1) := by decide +kernel
theorem dX10_setSheet_41 : decode cX10_setSheet 41 = .ok (.aload_n 0, 1) := by decide +kernel
theorem dX10_setSheet_42 : decode cX10_setSheet 42 = .ok (.getfield 7, 3) := by decide +kernel
theorem dX10_setSheet_45 : decode cX10_setSheet 45 = .ok (.bipush 8, 2) := by decide +kernel
theorem dX10_setSheet_47 : decode cX10_setSheet 47 = .ok (.iconst 0, 1) := by decide +kernel
theorem dX10_setSheet_48 : decode cX10_setSheet 48 = .ok (.iastore, 1) := by decide +kernel
theorem dX10_setSheet_49 : decode cX10_setSheet 49 = .ok (.aload_n 0, 1) := by decide +kernel
theorem dX10_setSheet_50 : decode cX10_setSheet 50 = .ok (.getfield 7, 3) := by decide +kernel
theorem dX10_setSheet_53 : decode cX10_setSheet 53 = .ok (.bipush 9, 2) := by decide +kernel
theorem dX10_setSheet_55 : decode cX10_setSheet 55 = .ok (.iconst 0, 1) := by decide +kernel
theorem dX10_setSheet_56 : decode cX10_setSheet 56 = .ok (.iastore, 1) := by decide +kernel
theorem dX10_setSheet_57 : decode cX10_setSheet 57 = .ok (.aload_n 0, 1) := by decide +kernel
theorem dX10_setSheet_58 : decode cX10_setSheet 58 = .ok (.getfield 7, 3) := by decide +kernel
theorem dX10_setSheet_61 : decode cX10_setSheet 61 = .ok (.bipush 12, 2) := by decide +kernel
theorem dX10_setSheet_63 : decode cX10_setSheet 63 = .ok (.iconst 0, 1) := by decide +kernel
theorem dX10_setSheet_64 : decode cX10_setSheet 64 = .ok (.iastore, 1) := by decide +kernel
theorem dX10_setSheet_65 : decode cX10_setSheet 65 = .ok (.aload_n 0, 1) := by decide +kernel
theorem dX10_setSheet_66 : decode cX10_setSheet 66 = .ok (.invokevirtual 58, 3) := by decide +kernel
theorem dX10_setSheet_69 : decode cX10_setSheet 69 = .ok (.iload_n 1, 1) := by decide +kernel
theorem dX10_setSheet_70 : decode cX10_setSheet 70 = .ok (.iload_n 2, 1) := by decide +kernel
theorem dX10_setSheet_71 : decode cX10_setSheet 71 = .ok (.imul, 1) := by decide +kernel
theorem dX10_setSheet_72 : decode cX10_setSheet 72 = .ok (.ireturn, 1) := by decide +kernel
theorem dX10_fold_0 : decode cX10_fold 0 = .ok (.iload_n 1, 1) := by decide +kernel
theorem dX10_fold_1 : decode cX10_fold 1 = .ok (.i2l, 1) := by decide +kernel
theorem dX10_fold_2 : decode cX10_fold 2 = .ok (.lconst 1, 1) := by decide +kernel
theorem dX10_fold_3 : decode cX10_fold 3 = .ok (.ldc2_w 99, 3) := by decide +kernel
theorem dX10_fold_6 : decode cX10_fold 6 = .ok (.invokestatic 101, 3) := by decide +kernel
theorem dX10_fold_9 : decode cX10_fold 9 = .ok (.ifCond .ne 5, 3) := by decide +kernel
theorem dX10_fold_12 : decode cX10_fold 12 = .ok (.iconst (-1), 1) := by decide +kernel
theorem dX10_fold_13 : decode cX10_fold 13 = .ok (.ireturn, 1) := by decide +kernel
theorem dX10_fold_14 : decode cX10_fold 14 = .ok (.aload_n 0, 1) := by decide +kernel
theorem dX10_fold_15 : decode cX10_fold 15 = .ok (.invokevirtual 92, 3) := by decide +kernel
theorem dX10_fold_18 : decode cX10_fold 18 = .ok (.aload_n 0, 1) := by decide +kernel
theorem dX10_fold_19 : decode cX10_fold 19 = .ok (.iload_n 1, 1) := by decide +kernel
theorem dX10_fold_20 : decode cX10_fold 20 = .ok (.invokevirtual 105, 3) := by decide +kernel
theorem dX10_fold_23 : decode cX10_fold 23 = .ok (.ifCond .eq 10, 3) := by decide +kernel
theorem dX10_fold_26 : decode cX10_fold 26 = .ok (.aload_n 0, 1) := by decide +kernel
theorem dX10_fold_27 : decode cX10_fold 27 = .ok (.invokevirtual 142, 3) := by decide +kernel
theorem dX10_fold_30 : decode cX10_fold 30 = .ok (.ifCond .eq 6, 3) := by decide +kernel
theorem dX10_fold_33 : decode cX10_fold 33 = .ok (.bipush (-2), 2) := by decide +kernel
theorem dX10_fold_35 : decode cX10_fold 35 = .ok (.ireturn, 1) := by decide +kernel
theorem dX10_fold_36 : decode cX10_fold 36 = .ok (.aload_n 0, 1) := by decide +kernel
theorem dX10_fold_37 : decode cX10_fold 37 = .ok (.invokevirtual 139, 3) := by decide +kernel
theorem dX10_fold_40 : decode cX10_fold 40 = .ok (.aload_n 0, 1) := by decide +kernel
theorem dX10_fold_41 : decode cX10_fold 41 = .ok (.getfield 7, 3) := by decide +kernel
theorem dX10_fold_44 : decode cX10_fold 44 = .ok (.bipush 86, 2) := by decide +kernel
theorem dX10_fold_46 : decode cX10_fold 46 = .ok (.dup2, 1) := by decide +kernel
theorem dX10_fold_47 : decode cX10_fold 47 = .ok (.iaload, 1) := by decide +kernel
theorem dX10_fold_48 : decode cX10_fold 48 = .ok (.aload_n 0, 1) := by decide +kernel
theorem dX10_fold_49 : decode cX10_fold 49 = .ok (.getfield 78, 3) := by decide +kernel
theorem dX10_fold_52 : decode cX10_fold 52 = .ok (.iadd, 1) := by decide +kernel
theorem dX10_fold_53 : decode cX10_fold 53 = .ok (.iastore, 1) := by decide +kernel
theorem dX10_fold_54 : decode cX10_fold 54 = .ok (.aload_n 0, 1) := by decide +kernel
theorem dX10_fold_55 : decode cX10_fold 55 = .ok (.getfield 7, 3) := by decide +kernel
theorem dX10_fold_58 : decode cX10_fold 58 = .ok (.iconst 3, 1) := by decide +kernel
theorem dX10_fold_59 : decode cX10_fold 59 = .ok (.aload_n 0, 1) := by decide +kernel
theorem dX10_fold_60 : decode cX10_fold 60 = .ok (.getfield 7, 3) := by decide +kernel
theorem dX10_fold_63 : decode cX10_fold 63 = .ok (.iconst 2, 1) := by decide +kernel
theorem dX10_fold_64 : decode cX10_fold 64 = .ok (.iaload, 1) := by decide +kernel
theorem dX10_fold_65 : decode cX10_fold 65 = .ok (.iadd, 1) := by decide +kernel
theorem dX10_fold_66 : decode cX10_fold 66 = .ok (.iload_n 1, 1) := by decide +kernel
theorem dX10_fold_67 : decode cX10_fold 67 = .ok (.iastore, 1) := by decide +kernel
theorem dX10_fold_68 : decode cX10_fold 68 = .ok (.aload_n 0, 1) := by decide +kernel
theorem dX10_fold_69 : decode cX10_fold 69 = .ok (.getfield 7, 3) := by decide +kernel
theorem dX10_fold_72 : decode cX10_fold 72 = .ok (.iconst 2, 1) := by decide +kernel
theorem dX10_fold_73 : decode cX10_fold 73 = .ok (.dup2, 1) := by decide +kernel
theorem dX10_fold_74 : decode cX10_fold 74 = .ok (.iaload, 1) := by decide +kernel
theorem dX10_fold_75 : decode cX10_fold 75 = .ok (.iconst 1, 1) := by decide +kernel
theorem dX10_fold_76 : decode cX10_fold 76 = .ok (.iadd, 1) := by decide +kernel
theorem dX10_fold_77 : decode cX10_fold 77 = .ok (.iastore, 1) := by decide +kernel
theorem dX10_fold_78 : decode cX10_fold 78 = .ok (.iconst 2, 1) := by decide +kernel
theorem dX10_fold_79 : decode cX10_fold 79 = .ok (.aload_n 0, 1) := by decide +kernel
theorem dX10_fold_80 : decode cX10_fold 80 = .ok (.getfield 78, 3) := by decide +kernel
theorem dX10_fold_83 : decode cX10_fold 83 = .ok (.imul, 1) := by decide +kernel
theorem dX10_fold_84 : decode cX10_fold 84 = .ok (.ireturn, 1) := by decide +kernel
theorem dX10_unfold_0 : decode cX10_unfold 0 = .ok (.aload_n 0, 1) := by decide +kernel
theorem dX10_unfold_1 : decode cX10_unfold 1 = .ok (.getfield 7, 3) := by decide +kernel
theorem dX10_unfold_4 : decode cX10_unfold 4 = .ok (.iconst 2, 1) := by decide +kernel
theorem dX10_unfold_5 : decode cX10_unfold 5 = .ok (.iaload, 1) := by decide +kernel
theorem dX10_unfold_6 : decode cX10_unfold 6 = .ok (.ifCond .eq 10, 3) := by decide +kernel
theorem dX10_unfold_9 : decode cX10_unfold 9 = .ok (.aload_n 0, 1) := by decide +kernel
theorem dX10_unfold_10 : decode cX10_unfold 10 = .ok (.invokevirtual 142, 3) := by decide +kernel
theorem dX10_unfold_13 : decode cX10_unfold 13 = .ok (.ifCond .eq 6, 3) := by decide +kernel
theorem dX10_unfold_16 : decode cX10_unfold 16 = .ok (.bipush (-2), 2) := by decide +kernel
theorem dX10_unfold_18 : decode cX10_unfold 18 = .ok (.ireturn, 1) := by decide +kernel
theorem dX10_unfold_19 : decode cX10_unfold 19 = .ok (.aload_n 0, 1) := by decide +kernel
theorem dX10_unfold_20 : decode cX10_unfold 20 = .ok (.invokevirtual 139, 3) := by decide +kernel
theorem dX10_unfold_23 : decode cX10_unfold 23 = .ok (.aload_n 0, 1) := by decide +kernel
theorem dX10_unfold_24 : decode cX10_unfold 24 = .ok (.getfield 7, 3) := by decide +kernel
theorem dX10_unfold_27 : decode cX10_unfold 27 = .ok (.bipush 86, 2) := by decide +kernel
theorem dX10_unfold_29 : decode cX10_unfold 29 = .ok (.dup2, 1) := by decide +kernel
theorem dX10_unfold_30 : decode cX10_unfold 30 = .ok (.iaload, 1) := by decide +kernel
theorem dX10_unfold_31 : decode cX10_unfold 31 = .ok (.iconst 1, 1) := by decide +kernel
theorem dX10_unfold_32 : decode cX10_unfold 32 = .ok (.iadd, 1) := by decide +kernel
theorem dX10_unfold_33 : decode cX10_unfold 33 = .ok (.iastore, 1) := by decide +kernel
theorem dX10_unfold_34 : decode cX10_unfold 34 = .ok (.aload_n 0, 1) := by decide +kernel
theorem dX10_unfold_35 : decode cX10_unfold 35 = .ok (.getfield 7, 3) := by decide +kernel
theorem dX10_unfold_38 : decode cX10_unfold 38 = .ok (.iconst 2, 1) := by decide +kernel
theorem dX10_unfold_39 : decode cX10_unfold 39 = .ok (.dup2, 1) := by decide +kernel
theorem dX10_unfold_40 : decode cX10_unfold 40 = .ok (.iaload, 1) := by decide +kernel
theorem dX10_unfold_41 : decode cX10_unfold 41 = .ok (.iconst 1, 1) := by decide +kernel
theorem dX10_unfold_42 : decode cX10_unfold 42 = .ok (.isub, 1) := by decide +kernel
theorem dX10_unfold_43 : decode cX10_unfold 43 = .ok (.iastore, 1) := by decide +kernel
theorem dX10_unfold_44 : decode cX10_unfold 44 = .ok (.aload_n 0, 1) := by decide +kernel
theorem dX10_unfold_45 : decode cX10_unfold 45 = .ok (.getfield 7, 3) := by decide +kernel
theorem dX10_unfold_48 : decode cX10_unfold 48 = .ok (.iconst 2, 1) := by decide +kernel
theorem dX10_unfold_49 : decode cX10_unfold 49 = .ok (.iaload, 1) := by decide +kernel
theorem dX10_unfold_50 : decode cX10_unfold 50 = .ok (.ireturn, 1) := by decide +kernel
theorem dX10_setSpine_0 : decode cX10_setSpine 0 = .ok (.iload_n 1, 1) := by decide +kernel
theorem dX10_setSpine_1 : decode cX10_setSpine 1 = .ok (.i2l, 1) := by decide +kernel
theorem dX10_setSpine_2 : decode cX10_setSpine 2 = .ok (.lconst 0, 1) := by decide +kernel
theorem dX10_setSpine_3 : decode cX10_setSpine 3 = .ok (.lconst 1, 1) := by decide +kernel
theorem dX10_setSpine_4 : decode cX10_setSpine 4 = .ok (.invokestatic 101, 3) := by decide +kernel
theorem dX10_setSpine_7 : decode cX10_setSpine 7 = .ok (.ifCond .ne 5, 3) := by decide +kernel
theorem dX10_setSpine_10 : decode cX10_setSpine 10 = .ok (.iconst (-1), 1) := by decide +kernel
theorem dX10_setSpine_11 : decode cX10_setSpine 11 = .ok (.ireturn, 1) := by decide +kernel
theorem dX10_setSpine_12 : decode cX10_setSpine 12 = .ok (.aload_n 0, 1) := by decide +kernel
theorem dX10_setSpine_13 : decode cX10_setSpine 13 = .ok (.getfield 7, 3) := by decide +kernel
theorem dX10_setSpine_16 : decode cX10_setSpine 16 = .ok (.bipush 9, 2) := by decide +kernel
theorem dX10_setSpine_18 : decode cX10_setSpine 18 = .ok (.iaload, 1) := by decide +kernel
theorem dX10_setSpine_19 : decode cX10_setSpine 19 = .ok (.ifCond .eq 6, 3) := by decide +kernel
theorem dX10_setSpine_22 : decode cX10_setSpine 22 = .ok (.bipush (-2), 2) := by decide +kernel
theorem dX10_setSpine_24 : decode cX10_setSpine 24 = .ok (.ireturn, 1) := by decide +kernel
theorem dX10_setSpine_25 : decode cX10_setSpine 25 = .ok (.aload_n 0, 1) := by decide +kernel
theorem dX10_setSpine_26 : decode cX10_setSpine 26 = .ok (.invokevirtual 139, 3) := by decide +kernel
theorem dX10_setSpine_29 : decode cX10_setSpine 29 = .ok (.aload_n 0, 1) := by decide +kernel
theorem dX10_setSpine_30 : decode cX10_setSpine 30 = .ok (.getfield 7, 3) := by decide +kernel
theorem dX10_setSpine_33 : decode cX10_setSpine 33 = .ok (.bipush 7, 2) := by decide +kernel
theorem dX10_setSpine_35 : decode cX10_setSpine 35 = .ok (.iaload, 1) := by decide +kernel
theorem dX10_setSpine_36 : decode cX10_setSpine 36 = .ok (.istore_n 2, 1) := by decide +kernel
theorem dX10_setSpine_37 : decode cX10_setSpine 37 = .ok (.aload_n 0, 1) := by decide +kernel
theorem dX10_setSpine_38 : decode cX10_setSpine 38 = .ok (.getfield 7, 3) := by decide +kernel
theorem dX10_setSpine_41 : decode cX10_setSpine 41 = .ok (.bipush 7, 2) := by decide +kernel
theorem dX10_setSpine_43 : decode cX10_setSpine 43 = .ok (.iload_n 1, 1) := by decide +kernel
theorem dX10_setSpine_44 : decode cX10_setSpine 44 = .ok (.iastore, 1) := by decide +kernel
theorem dX10_setSpine_45 : decode cX10_setSpine 45 = .ok (.iload_n 2, 1) := by decide +kernel
theorem dX10_setSpine_46 : decode cX10_setSpine 46 = .ok (.ireturn, 1) := by decide +kernel
theorem dX10_isCell_0 : decode cX10_isCell 0 = .ok (.iload_n 1, 1) := by decide +kernel
theorem dX10_isCell_1 : decode cX10_isCell 1 = .ok (.i2l, 1) := by decide +kernel
theorem dX10_isCell_2 : decode cX10_isCell 2 = .ok (.lconst 0, 1) := by decide +kernel
theorem dX10_isCell_3 : decode cX10_isCell 3 = .ok (.aload_n 0, 1) := by decide +kernel
theorem dX10_isCell_4 : decode cX10_isCell 4 = .ok (.getfield 7, 3) := by decide +kernel
theorem dX10_isCell_7 : decode cX10_isCell 7 = .ok (.iconst 0, 1) := by decide +kernel
theorem dX10_isCell_8 : decode cX10_isCell 8 = .ok (.iaload, 1) := by decide +kernel
theorem dX10_isCell_9 : decode cX10_isCell 9 = .ok (.iconst 1, 1) := by decide +kernel
theorem dX10_isCell_10 : decode cX10_isCell 10 = .ok (.isub, 1) := by decide +kernel
theorem dX10_isCell_11 : decode cX10_isCell 11 = .ok (.i2l, 1) := by decide +kernel
theorem dX10_isCell_12 : decode cX10_isCell 12 = .ok (.invokestatic 101, 3) := by decide +kernel
theorem dX10_isCell_15 : decode cX10_isCell 15 = .ok (.ifCond .eq 25, 3) := by decide +kernel
theorem dX10_isCell_18 : decode cX10_isCell 18 = .ok (.iload_n 2, 1) := by decide +kernel
theorem dX10_isCell_19 : decode cX10_isCell 19 = .ok (.i2l, 1) := by decide +kernel
theorem dX10_isCell_20 : decode cX10_isCell 20 = .ok (.lconst 0, 1) := by decide +kernel
theorem dX10_isCell_21 : decode cX10_isCell 21 = .ok (.aload_n 0, 1) := by decide +kernel
theorem dX10_isCell_22 : decode cX10_isCell 22 = .ok (.getfield 7, 3) := by decide +kernel
theorem dX10_isCell_25 : decode cX10_isCell 25 = .ok (.iconst 1, 1) := by decide +kernel
theorem dX10_isCell_26 : decode cX10_isCell 26 = .ok (.iaload, 1) := by decide +kernel
theorem dX10_isCell_27 : decode cX10_isCell 27 = .ok (.iconst 1, 1) := by decide +kernel
theorem dX10_isCell_28 : decode cX10_isCell 28 = .ok (.isub, 1) := by decide +kernel
theorem dX10_isCell_29 : decode cX10_isCell 29 = .ok (.i2l, 1) := by decide +kernel
theorem dX10_isCell_30 : decode cX10_isCell 30 = .ok (.invokestatic 101, 3) := by decide +kernel
theorem dX10_isCell_33 : decode cX10_isCell 33 = .ok (.ifCond .eq 7, 3) := by decide +kernel
theorem dX10_isCell_36 : decode cX10_isCell 36 = .ok (.iconst 1, 1) := by decide +kernel
theorem dX10_isCell_37 : decode cX10_isCell 37 = .ok (.goto 4, 3) := by decide +kernel
theorem dX10_isCell_40 : decode cX10_isCell 40 = .ok (.iconst 0, 1) := by decide +kernel
theorem dX10_isCell_41 : decode cX10_isCell 41 = .ok (.ireturn, 1) := by decide +kernel
theorem dX10_printOn_0 : decode cX10_printOn 0 = .ok (.iload_n 2, 1) := by decide +kernel
theorem dX10_printOn_1 : decode cX10_printOn 1 = .ok (.ifCond .ge 7, 3) := by decide +kernel
theorem dX10_printOn_4 : decode cX10_printOn 4 = .ok (.iconst 0, 1) := by decide +kernel
theorem dX10_printOn_5 : decode cX10_printOn 5 = .ok (.goto 4, 3) := by decide +kernel
theorem dX10_printOn_8 : decode cX10_printOn 8 = .ok (.iload_n 3, 1) := by decide +kernel
theorem dX10_printOn_9 : decode cX10_printOn 9 = .ok (.istore 4, 2) := by decide +kernel
theorem dX10_printOn_11 : decode cX10_printOn 11 = .ok (.aload_n 0, 1) := by decide +kernel
theorem dX10_printOn_12 : decode cX10_printOn 12 = .ok (.getfield 7, 3) := by decide +kernel
theorem dX10_printOn_15 : decode cX10_printOn 15 = .ok (.bipush 90, 2) := by decide +kernel
theorem dX10_printOn_17 : decode cX10_printOn 17 = .ok (.iload_n 1, 1) := by decide +kernel
theorem dX10_printOn_18 : decode cX10_printOn 18 = .ok (.iadd, 1) := by decide +kernel
theorem dX10_printOn_19 : decode cX10_printOn 19 = .ok (.iaload, 1) := by decide +kernel
theorem dX10_printOn_20 : decode cX10_printOn 20 = .ok (.iload_n 2, 1) := by decide +kernel
theorem dX10_printOn_21 : decode cX10_printOn 21 = .ok (.if_icmp .ne 17, 3) := by decide +kernel
theorem dX10_printOn_24 : decode cX10_printOn 24 = .ok (.aload_n 0, 1) := by decide +kernel
theorem dX10_printOn_25 : decode cX10_printOn 25 = .ok (.getfield 7, 3) := by decide +kernel
theorem dX10_printOn_28 : decode cX10_printOn 28 = .ok (.bipush 122, 2) := by decide +kernel
theorem dX10_printOn_30 : decode cX10_printOn 30 = .ok (.iload_n 1, 1) := by decide +kernel
theorem dX10_printOn_31 : decode cX10_printOn 31 = .ok (.iadd, 1) := by decide +kernel
theorem dX10_printOn_32 : decode cX10_printOn 32 = .ok (.iaload, 1) := by decide +kernel
theorem dX10_printOn_33 : decode cX10_printOn 33 = .ok (.iload 4, 2) := by decide +kernel
theorem dX10_printOn_35 : decode cX10_printOn 35 = .ok (.if_icmp .eq 7, 3) := by decide +kernel
theorem dX10_printOn_38 : decode cX10_printOn 38 = .ok (.iconst 1, 1) := by decide +kernel
theorem dX10_printOn_39 : decode cX10_printOn 39 = .ok (.goto 4, 3) := by decide +kernel
theorem dX10_printOn_42 : decode cX10_printOn 42 = .ok (.iconst 0, 1) := by decide +kernel
theorem dX10_printOn_43 : decode cX10_printOn 43 = .ok (.istore 5, 2) := by decide +kernel
theorem dX10_printOn_45 : decode cX10_printOn 45 = .ok (.aload_n 0, 1) := by decide +kernel
theorem dX10_printOn_46 : decode cX10_printOn 46 = .ok (.getfield 7, 3) := by decide +kernel
theorem dX10_printOn_49 : decode cX10_printOn 49 = .ok (.bipush 90, 2) := by decide +kernel
theorem dX10_printOn_51 : decode cX10_printOn 51 = .ok (.iload_n 1, 1) := by decide +kernel
theorem dX10_printOn_52 : decode cX10_printOn 52 = .ok (.iadd, 1) := by decide +kernel
theorem dX10_printOn_53 : decode cX10_printOn 53 = .ok (.iload_n 2, 1) := by decide +kernel
theorem dX10_printOn_54 : decode cX10_printOn 54 = .ok (.iastore, 1) := by decide +kernel
theorem dX10_printOn_55 : decode cX10_printOn 55 = .ok (.aload_n 0, 1) := by decide +kernel
theorem dX10_printOn_56 : decode cX10_printOn 56 = .ok (.getfield 7, 3) := by decide +kernel
theorem dX10_printOn_59 : decode cX10_printOn 59 = .ok (.bipush 122, 2) := by decide +kernel
theorem dX10_printOn_61 : decode cX10_printOn 61 = .ok (.iload_n 1, 1) := by decide +kernel
theorem dX10_printOn_62 : decode cX10_printOn 62 = .ok (.iadd, 1) := by decide +kernel
theorem dX10_printOn_63 : decode cX10_printOn 63 = .ok (.iload 4, 2) := by decide +kernel
theorem dX10_printOn_65 : decode cX10_printOn 65 = .ok (.iastore, 1) := by decide +kernel
theorem dX10_printOn_66 : decode cX10_printOn 66 = .ok (.aload_n 0, 1) := by decide +kernel
theorem dX10_printOn_67 : decode cX10_printOn 67 = .ok (.getfield 7, 3) := by decide +kernel
theorem dX10_printOn_70 : decode cX10_printOn 70 = .ok (.bipush 87, 2) := by decide +kernel
theorem dX10_printOn_72 : decode cX10_printOn 72 = .ok (.dup2, 1) := by decide +kernel
theorem dX10_printOn_73 : decode cX10_printOn 73 = .ok (.iaload, 1) := by decide +kernel
theorem dX10_printOn_74 : decode cX10_printOn 74 = .ok (.iload 5, 2) := by decide +kernel
theorem dX10_printOn_76 : decode cX10_printOn 76 = .ok (.iadd, 1) := by decide +kernel
theorem dX10_printOn_77 : decode cX10_printOn 77 = .ok (.iastore, 1) := by decide +kernel
theorem dX10_printOn_78 : decode cX10_printOn 78 = .ok (.iload 5, 2) := by decide +kernel
theorem dX10_printOn_80 : decode cX10_printOn 80 = .ok (.ireturn, 1) := by decide +kernel
theorem dX10_print_0 : decode cX10_print 0 = .ok (.aload_n 0, 1) := by decide +kernel
theorem dX10_print_1 : decode cX10_print 1 = .ok (.iload_n 1, 1) := by decide +kernel
theorem dX10_print_2 : decode cX10_print 2 = .ok (.iload_n 2, 1) := by decide +kernel
theorem dX10_print_3 : decode cX10_print 3 = .ok (.invokevirtual 146, 3) := by decide +kernel
theorem dX10_print_6 : decode cX10_print 6 = .ok (.ifCond .eq 39, 3) := by decide +kernel
theorem dX10_print_9 : decode cX10_print 9 = .ok (.iload_n 3, 1) := by decide +kernel
theorem dX10_print_10 : decode cX10_print 10 = .ok (.i2l, 1) := by decide +kernel
theorem dX10_print_11 : decode cX10_print 11 = .ok (.lconst 0, 1) := by decide +kernel
theorem dX10_print_12 : decode cX10_print 12 = .ok (.lconst 1, 1) := by decide +kernel
theorem dX10_print_13 : decode cX10_print 13 = .ok (.invokestatic 101, 3) := by decide +kernel
theorem dX10_print_16 : decode cX10_print 16 = .ok (.ifCond .eq 29, 3) := by decide +kernel
theorem dX10_print_19 : decode cX10_print 19 = .ok (.iload 4, 2) := by decide +kernel
theorem dX10_print_21 : decode cX10_print 21 = .ok (.i2l, 1) := by decide +kernel
theorem dX10_print_22 : decode cX10_print 22 = .ok (.ldc2_w 149, 3) := by decide +kernel
theorem dX10_print_25 : decode cX10_print 25 = .ok (.ldc2_w 151, 3) := by decide +kernel
theorem dX10_print_28 : decode cX10_print 28 = .ok (.invokestatic 101, 3) := by decide +kernel
theorem dX10_print_31 : decode cX10_print 31 = .ok (.ifCond .eq 14, 3) := by decide +kernel
theorem dX10_print_34 : decode cX10_print 34 = .ok (.iload 5, 2) := by decide +kernel
theorem dX10_print_36 : decode cX10_print 36 = .ok (.i2l, 1) := by decide +kernel
theorem dX10_print_37 : decode cX10_print 37 = .ok (.lconst 0, 1) := by decide +kernel
theorem dX10_print_38 : decode cX10_print 38 = .ok (.lconst 1, 1) := by decide +kernel
theorem dX10_print_39 : decode cX10_print 39 = .ok (.invokestatic 101, 3) := by decide +kernel
theorem dX10_print_42 : decode cX10_print 42 = .ok (.ifCond .ne 5, 3) := by decide +kernel
theorem dX10_print_45 : decode cX10_print 45 = .ok (.iconst (-1), 1) := by decide +kernel
theorem dX10_print_46 : decode cX10_print 46 = .ok (.ireturn, 1) := by decide +kernel
theorem dX10_print_47 : decode cX10_print 47 = .ok (.aload_n 0, 1) := by decide +kernel
theorem dX10_print_48 : decode cX10_print 48 = .ok (.getfield 7, 3) := by decide +kernel
theorem dX10_print_51 : decode cX10_print 51 = .ok (.iconst 2, 1) := by decide +kernel
theorem dX10_print_52 : decode cX10_print 52 = .ok (.iaload, 1) := by decide +kernel
theorem dX10_print_53 : decode cX10_print 53 = .ok (.ifCond .gt 10, 3) := by decide +kernel
theorem dX10_print_56 : decode cX10_print 56 = .ok (.aload_n 0, 1) := by decide +kernel
theorem dX10_print_57 : decode cX10_print 57 = .ok (.invokevirtual 142, 3) := by decide +kernel
theorem dX10_print_60 : decode cX10_print 60 = .ok (.ifCond .eq 6, 3) := by decide +kernel
theorem dX10_print_63 : decode cX10_print 63 = .ok (.bipush (-2), 2) := by decide +kernel
theorem dX10_print_65 : decode cX10_print 65 = .ok (.ireturn, 1) := by decide +kernel
theorem dX10_print_66 : decode cX10_print 66 = .ok (.aload_n 0, 1) := by decide +kernel
theorem dX10_print_67 : decode cX10_print 67 = .ok (.invokevirtual 139, 3) := by decide +kernel
theorem dX10_print_70 : decode cX10_print 70 = .ok (.iconst 2, 1) := by decide +kernel
theorem dX10_print_71 : decode cX10_print 71 = .ok (.aload_n 0, 1) := by decide +kernel
theorem dX10_print_72 : decode cX10_print 72 = .ok (.getfield 7, 3) := by decide +kernel
theorem dX10_print_75 : decode cX10_print 75 = .ok (.iconst 1, 1) := by decide +kernel
theorem dX10_print_76 : decode cX10_print 76 = .ok (.iaload, 1) := by decide +kernel
theorem dX10_print_77 : decode cX10_print 77 = .ok (.iload_n 1, 1) := by decide +kernel
theorem dX10_print_78 : decode cX10_print 78 = .ok (.imul, 1) := by decide +kernel
theorem dX10_print_79 : decode cX10_print 79 = .ok (.iload_n 2, 1) := by decide +kernel
theorem dX10_print_80 : decode cX10_print 80 = .ok (.iadd, 1) := by decide +kernel
theorem dX10_print_81 : decode cX10_print 81 = .ok (.imul, 1) := by decide +kernel
theorem dX10_print_82 : decode cX10_print 82 = .ok (.iload_n 3, 1) := by decide +kernel
theorem dX10_print_83 : decode cX10_print 83 = .ok (.iadd, 1) := by decide +kernel
theorem dX10_print_84 : decode cX10_print 84 = .ok (.istore 6, 2) := by decide +kernel
theorem dX10_print_86 : decode cX10_print 86 = .ok (.aload_n 0, 1) := by decide +kernel
theorem dX10_print_87 : decode cX10_print 87 = .ok (.getfield 7, 3) := by decide +kernel
theorem dX10_print_90 : decode cX10_print 90 = .ok (.bipush 90, 2) := by decide +kernel
theorem dX10_print_92 : decode cX10_print 92 = .ok (.iload 6, 2) := by decide +kernel
theorem dX10_print_94 : decode cX10_print 94 = .ok (.iadd, 1) := by decide +kernel
theorem dX10_print_95 : decode cX10_print 95 = .ok (.iaload, 1) := by decide +kernel
theorem dX10_print_96 : decode cX10_print 96 = .ok (.istore 7, 2) := by decide +kernel
theorem dX10_print_98 : decode cX10_print 98 = .ok (.aload_n 0, 1) := by decide +kernel
theorem dX10_print_99 : decode cX10_print 99 = .ok (.iload 6, 2) := by decide +kernel
theorem dX10_print_101 : decode cX10_print 101 = .ok (.iload 4, 2) := by decide +kernel
theorem dX10_print_103 : decode cX10_print 103 = .ok (.iload 5, 2) := by decide +kernel
theorem dX10_print_105 : decode cX10_print 105 = .ok (.invokevirtual 153, 3) := by decide +kernel
theorem dX10_print_108 : decode cX10_print 108 = .ok (.pop, 1) := by decide +kernel
theorem dX10_print_109 : decode cX10_print 109 = .ok (.iload 7, 2) := by decide +kernel
theorem dX10_print_111 : decode cX10_print 111 = .ok (.ifCond .ge 8, 3) := by decide +kernel
theorem dX10_print_114 : decode cX10_print 114 = .ok (.bipush (-9), 2) := by decide +kernel
theorem dX10_print_116 : decode cX10_print 116 = .ok (.goto 5, 3) := by decide +kernel
theorem dX10_print_119 : decode cX10_print 119 = .ok (.iload 7, 2) := by decide +kernel
theorem dX10_print_121 : decode cX10_print 121 = .ok (.ireturn, 1) := by decide +kernel
theorem dX10_printAll_0 : decode cX10_printAll 0 = .ok (.aload_n 0, 1) := by decide +kernel
theorem dX10_printAll_1 : decode cX10_printAll 1 = .ok (.iload_n 1, 1) := by decide +kernel
theorem dX10_printAll_2 : decode cX10_printAll 2 = .ok (.invokevirtual 157, 3) := by decide +kernel
theorem dX10_printAll_5 : decode cX10_printAll 5 = .ok (.ifCond .ne 5, 3) := by decide +kernel
theorem dX10_printAll_8 : decode cX10_printAll 8 = .ok (.iconst (-1), 1) := by decide +kernel
theorem dX10_printAll_9 : decode cX10_printAll 9 = .ok (.ireturn, 1) := by decide +kernel
theorem dX10_printAll_10 : decode cX10_printAll 10 = .ok (.aload_n 0, 1) := by decide +kernel
theorem dX10_printAll_11 : decode cX10_printAll 11 = .ok (.getfield 7, 3) := by decide +kernel
theorem dX10_printAll_14 : decode cX10_printAll 14 = .ok (.iconst 2, 1) := by decide +kernel
theorem dX10_printAll_15 : decode cX10_printAll 15 = .ok (.iaload, 1) := by decide +kernel
theorem dX10_printAll_16 : decode cX10_printAll 16 = .ok (.ifCond .gt 10, 3) := by decide +kernel
theorem dX10_printAll_19 : decode cX10_printAll 19 = .ok (.aload_n 0, 1) := by decide +kernel
theorem dX10_printAll_20 : decode cX10_printAll 20 = .ok (.invokevirtual 142, 3) := by decide +kernel
theorem dX10_printAll_23 : decode cX10_printAll 23 = .ok (.ifCond .eq 6, 3) := by decide +kernel
theorem dX10_printAll_26 : decode cX10_printAll 26 = .ok (.bipush (-2), 2) := by decide +kernel
theorem dX10_printAll_28 : decode cX10_printAll 28 = .ok (.ireturn, 1) := by decide +kernel
theorem dX10_printAll_29 : decode cX10_printAll 29 = .ok (.aload_n 0, 1) := by decide +kernel
theorem dX10_printAll_30 : decode cX10_printAll 30 = .ok (.invokevirtual 139, 3) := by decide +kernel
theorem dX10_printAll_33 : decode cX10_printAll 33 = .ok (.iconst 0, 1) := by decide +kernel
theorem dX10_printAll_34 : decode cX10_printAll 34 = .ok (.istore_n 2, 1) := by decide +kernel
theorem dX10_printAll_35 : decode cX10_printAll 35 = .ok (.iconst 0, 1) := by decide +kernel
theorem dX10_printAll_36 : decode cX10_printAll 36 = .ok (.istore_n 3, 1) := by decide +kernel
theorem dX10_printAll_37 : decode cX10_printAll 37 = .ok (.iload_n 3, 1) := by decide +kernel
theorem dX10_printAll_38 : decode cX10_printAll 38 = .ok (.iconst 2, 1) := by decide +kernel
theorem dX10_printAll_39 : decode cX10_printAll 39 = .ok (.aload_n 0, 1) := by decide +kernel
theorem dX10_printAll_40 : decode cX10_printAll 40 = .ok (.getfield 78, 3) := by decide +kernel
theorem dX10_printAll_43 : decode cX10_printAll 43 = .ok (.imul, 1) := by decide +kernel
theorem dX10_printAll_44 : decode cX10_printAll 44 = .ok (.if_icmp .ge 27, 3) := by decide +kernel
theorem dX10_printAll_47 : decode cX10_printAll 47 = .ok (.iload_n 2, 1) := by decide +kernel
theorem dX10_printAll_48 : decode cX10_printAll 48 = .ok (.aload_n 0, 1) := by decide +kernel
theorem dX10_printAll_49 : decode cX10_printAll 49 = .ok (.aload_n 0, 1) := by decide +kernel
theorem dX10_printAll_50 : decode cX10_printAll 50 = .ok (.iload_n 3, 1) := by decide +kernel
theorem dX10_printAll_51 : decode cX10_printAll 51 = .ok (.invokevirtual 113, 3) := by decide +kernel
theorem dX10_printAll_54 : decode cX10_printAll 54 = .ok (.iload_n 3, 1) := by decide +kernel
theorem dX10_printAll_55 : decode cX10_printAll 55 = .ok (.aload_n 0, 1) := by decide +kernel
theorem dX10_printAll_56 : decode cX10_printAll 56 = .ok (.iload_n 3, 1) := by decide +kernel
theorem dX10_printAll_57 : decode cX10_printAll 57 = .ok (.invokevirtual 109, 3) := by decide +kernel
theorem dX10_printAll_60 : decode cX10_printAll 60 = .ok (.invokevirtual 153, 3) := by decide +kernel
theorem dX10_printAll_63 : decode cX10_printAll 63 = .ok (.iadd, 1) := by decide +kernel
theorem dX10_printAll_64 : decode cX10_printAll 64 = .ok (.istore_n 2, 1) := by decide +kernel
theorem dX10_printAll_65 : decode cX10_printAll 65 = .ok (.iinc 3 1, 3) := by decide +kernel
theorem dX10_printAll_68 : decode cX10_printAll 68 = .ok (.goto (-31), 3) := by decide +kernel
theorem dX10_printAll_71 : decode cX10_printAll 71 = .ok (.iload_n 2, 1) := by decide +kernel
theorem dX10_printAll_72 : decode cX10_printAll 72 = .ok (.ireturn, 1) := by decide +kernel
theorem dX10_pairsAt_0 : decode cX10_pairsAt 0 = .ok (.iconst 0, 1) := by decide +kernel
theorem dX10_pairsAt_1 : decode cX10_pairsAt 1 = .ok (.istore_n 2, 1) := by decide +kernel
theorem dX10_pairsAt_2 : decode cX10_pairsAt 2 = .ok (.iconst 0, 1) := by decide +kernel
theorem dX10_pairsAt_3 : decode cX10_pairsAt 3 = .ok (.istore_n 3, 1) := by decide +kernel
theorem dX10_pairsAt_4 : decode cX10_pairsAt 4 = .ok (.iload_n 3, 1) := by decide +kernel
theorem dX10_pairsAt_5 : decode cX10_pairsAt 5 = .ok (.aload_n 0, 1) := by decide +kernel
theorem dX10_pairsAt_6 : decode cX10_pairsAt 6 = .ok (.getfield 78, 3) := by decide +kernel
theorem dX10_pairsAt_9 : decode cX10_pairsAt 9 = .ok (.if_icmp .ge 48, 3) := by decide +kernel
theorem dX10_pairsAt_12 : decode cX10_pairsAt 12 = .ok (.iload_n 3, 1) := by decide +kernel
theorem dX10_pairsAt_13 : decode cX10_pairsAt 13 = .ok (.iconst 1, 1) := by decide +kernel
theorem dX10_pairsAt_14 : decode cX10_pairsAt 14 = .ok (.iadd, 1) := by decide +kernel
theorem dX10_pairsAt_15 : decode cX10_pairsAt 15 = .ok (.istore 4, 2) := by decide +kernel
theorem dX10_pairsAt_17 : decode cX10_pairsAt 17 = .ok (.iload 4, 2) := by decide +kernel
theorem dX10_pairsAt_19 : decode cX10_pairsAt 19 = .ok (.aload_n 0, 1) := by decide +kernel
theorem dX10_pairsAt_20 : decode cX10_pairsAt 20 = .ok (.getfield 78, 3) := by decide +kernel
theorem dX10_pairsAt_23 : decode cX10_pairsAt 23 = .ok (.if_icmp .ge 28, 3) := by decide +kernel
theorem dX10_pairsAt_26 : decode cX10_pairsAt 26 = .ok (.iload_n 2, 1) := by decide +kernel
theorem dX10_pairsAt_27 : decode cX10_pairsAt 27 = .ok (.aload_n 0, 1) := by decide +kernel
theorem dX10_pairsAt_28 : decode cX10_pairsAt 28 = .ok (.iload_n 3, 1) := by decide +kernel
theorem dX10_pairsAt_29 : decode cX10_pairsAt 29 = .ok (.iload 4, 2) := by decide +kernel
theorem dX10_pairsAt_31 : decode cX10_pairsAt 31 = .ok (.invokevirtual 116, 3) := by decide +kernel
theorem dX10_pairsAt_34 : decode cX10_pairsAt 34 = .ok (.iload_n 1, 1) := by decide +kernel
theorem dX10_pairsAt_35 : decode cX10_pairsAt 35 = .ok (.if_icmp .ne 7, 3) := by decide +kernel
theorem dX10_pairsAt_38 : decode cX10_pairsAt 38 = .ok (.iconst 1, 1) := by decide +kernel
theorem dX10_pairsAt_39 : decode cX10_pairsAt 39 = .ok (.goto 4, 3) := by decide +kernel
theorem dX10_pairsAt_42 : decode cX10_pairsAt 42 = .ok (.iconst 0, 1) := by decide +kernel
theorem dX10_pairsAt_43 : decode cX10_pairsAt 43 = .ok (.iadd, 1) := by decide +kernel
theorem dX10_pairsAt_44 : decode cX10_pairsAt 44 = .ok (.istore_n 2, 1) := by decide +kernel
theorem dX10_pairsAt_45 : decode cX10_pairsAt 45 = .ok (.iinc 4 1, 3) := by decide +kernel
theorem dX10_pairsAt_48 : decode cX10_pairsAt 48 = .ok (.goto (-31), 3) := by decide +kernel
theorem dX10_pairsAt_51 : decode cX10_pairsAt 51 = .ok (.iinc 3 1, 3) := by decide +kernel
theorem dX10_pairsAt_54 : decode cX10_pairsAt 54 = .ok (.goto (-50), 3) := by decide +kernel
theorem dX10_pairsAt_57 : decode cX10_pairsAt 57 = .ok (.iload_n 2, 1) := by decide +kernel
theorem dX10_pairsAt_58 : decode cX10_pairsAt 58 = .ok (.ireturn, 1) := by decide +kernel
theorem dX10_cut_0 : decode cX10_cut 0 = .ok (.iload_n 1, 1) := by decide +kernel
theorem dX10_cut_1 : decode cX10_cut 1 = .ok (.i2l, 1) := by decide +kernel
theorem dX10_cut_2 : decode cX10_cut 2 = .ok (.lconst 0, 1) := by decide +kernel
theorem dX10_cut_3 : decode cX10_cut 3 = .ok (.ldc2_w 160, 3) := by decide +kernel
theorem dX10_cut_6 : decode cX10_cut 6 = .ok (.invokestatic 101, 3) := by decide +kernel
theorem dX10_cut_9 : decode cX10_cut 9 = .ok (.ifCond .ne 5, 3) := by decide +kernel
theorem dX10_cut_12 : decode cX10_cut 12 = .ok (.iconst (-1), 1) := by decide +kernel
theorem dX10_cut_13 : decode cX10_cut 13 = .ok (.ireturn, 1) := by decide +kernel
theorem dX10_cut_14 : decode cX10_cut 14 = .ok (.aload_n 0, 1) := by decide +kernel
theorem dX10_cut_15 : decode cX10_cut 15 = .ok (.invokevirtual 162, 3) := by decide +kernel
theorem dX10_cut_18 : decode cX10_cut 18 = .ok (.ifCond .eq 17, 3) := by decide +kernel
theorem dX10_cut_21 : decode cX10_cut 21 = .ok (.aload_n 0, 1) := by decide +kernel
theorem dX10_cut_22 : decode cX10_cut 22 = .ok (.getfield 7, 3) := by decide +kernel
theorem dX10_cut_25 : decode cX10_cut 25 = .ok (.bipush 8, 2) := by decide +kernel
theorem dX10_cut_27 : decode cX10_cut 27 = .ok (.iaload, 1) := by decide +kernel
theorem dX10_cut_28 : decode cX10_cut 28 = .ok (.iload_n 1, 1) := by decide +kernel
theorem dX10_cut_29 : decode cX10_cut 29 = .ok (.invokestatic 120, 3) := by decide +kernel
theorem dX10_cut_32 : decode cX10_cut 32 = .ok (.ifCond .eq 6, 3) := by decide +kernel
theorem dX10_cut_35 : decode cX10_cut 35 = .ok (.bipush (-2), 2) := by decide +kernel
theorem dX10_cut_37 : decode cX10_cut 37 = .ok (.ireturn, 1) := by decide +kernel
theorem dX10_cut_38 : decode cX10_cut 38 = .ok (.aload_n 0, 1) := by decide +kernel
theorem dX10_cut_39 : decode cX10_cut 39 = .ok (.invokevirtual 139, 3) := by decide +kernel
theorem dX10_cut_42 : decode cX10_cut 42 = .ok (.aload_n 0, 1) := by decide +kernel
theorem dX10_cut_43 : decode cX10_cut 43 = .ok (.getfield 7, 3) := by decide +kernel
theorem dX10_cut_46 : decode cX10_cut 46 = .ok (.bipush 8, 2) := by decide +kernel
theorem dX10_cut_48 : decode cX10_cut 48 = .ok (.dup2, 1) := by decide +kernel
theorem dX10_cut_49 : decode cX10_cut 49 = .ok (.iaload, 1) := by decide +kernel
theorem dX10_cut_50 : decode cX10_cut 50 = .ok (.iconst 1, 1) := by decide +kernel
theorem dX10_cut_51 : decode cX10_cut 51 = .ok (.iload_n 1, 1) := by decide +kernel
theorem dX10_cut_52 : decode cX10_cut 52 = .ok (.ishl, 1) := by decide +kernel
theorem dX10_cut_53 : decode cX10_cut 53 = .ok (.ior, 1) := by decide +kernel
theorem dX10_cut_54 : decode cX10_cut 54 = .ok (.iastore, 1) := by decide +kernel
theorem dX10_cut_55 : decode cX10_cut 55 = .ok (.aload_n 0, 1) := by decide +kernel
theorem dX10_cut_56 : decode cX10_cut 56 = .ok (.getfield 7, 3) := by decide +kernel
theorem dX10_cut_59 : decode cX10_cut 59 = .ok (.bipush 88, 2) := by decide +kernel
theorem dX10_cut_61 : decode cX10_cut 61 = .ok (.dup2, 1) := by decide +kernel
theorem dX10_cut_62 : decode cX10_cut 62 = .ok (.iaload, 1) := by decide +kernel
theorem dX10_cut_63 : decode cX10_cut 63 = .ok (.aload_n 0, 1) := by decide +kernel
theorem dX10_cut_64 : decode cX10_cut 64 = .ok (.getfield 78, 3) := by decide +kernel
theorem dX10_cut_67 : decode cX10_cut 67 = .ok (.iadd, 1) := by decide +kernel
theorem dX10_cut_68 : decode cX10_cut 68 = .ok (.iastore, 1) := by decide +kernel
theorem dX10_cut_69 : decode cX10_cut 69 = .ok (.aload_n 0, 1) := by decide +kernel
theorem dX10_cut_70 : decode cX10_cut 70 = .ok (.iload_n 1, 1) := by decide +kernel
theorem dX10_cut_71 : decode cX10_cut 71 = .ok (.invokevirtual 165, 3) := by decide +kernel
theorem dX10_cut_74 : decode cX10_cut 74 = .ok (.ireturn, 1) := by decide +kernel
theorem dX10_staple_0 : decode cX10_staple 0 = .ok (.iload_n 1, 1) := by decide +kernel
theorem dX10_staple_1 : decode cX10_staple 1 = .ok (.i2l, 1) := by decide +kernel
theorem dX10_staple_2 : decode cX10_staple 2 = .ok (.lconst 0, 1) := by decide +kernel
theorem dX10_staple_3 : decode cX10_staple 3 = .ok (.ldc2_w 168, 3) := by decide +kernel
theorem dX10_staple_6 : decode cX10_staple 6 = .ok (.invokestatic 101, 3) := by decide +kernel
theorem dX10_staple_9 : decode cX10_staple 9 = .ok (.ifCond .ne 5, 3) := by decide +kernel
theorem dX10_staple_12 : decode cX10_staple 12 = .ok (.iconst (-1), 1) := by decide +kernel
theorem dX10_staple_13 : decode cX10_staple 13 = .ok (.ireturn, 1) := by decide +kernel
theorem dX10_staple_14 : decode cX10_staple 14 = .ok (.aload_n 0, 1) := by decide +kernel
theorem dX10_staple_15 : decode cX10_staple 15 = .ok (.invokevirtual 162, 3) := by decide +kernel
theorem dX10_staple_18 : decode cX10_staple 18 = .ok (.ifCond .eq 17, 3) := by decide +kernel
theorem dX10_staple_21 : decode cX10_staple 21 = .ok (.aload_n 0, 1) := by decide +kernel
theorem dX10_staple_22 : decode cX10_staple 22 = .ok (.getfield 7, 3) := by decide +kernel
theorem dX10_staple_25 : decode cX10_staple 25 = .ok (.bipush 9, 2) := by decide +kernel
theorem dX10_staple_27 : decode cX10_staple 27 = .ok (.iaload, 1) := by decide +kernel
theorem dX10_staple_28 : decode cX10_staple 28 = .ok (.iload_n 1, 1) := by decide +kernel
theorem dX10_staple_29 : decode cX10_staple 29 = .ok (.invokestatic 120, 3) := by decide +kernel
theorem dX10_staple_32 : decode cX10_staple 32 = .ok (.ifCond .eq 6, 3) := by decide +kernel
theorem dX10_staple_35 : decode cX10_staple 35 = .ok (.bipush (-2), 2) := by decide +kernel
theorem dX10_staple_37 : decode cX10_staple 37 = .ok (.ireturn, 1) := by decide +kernel
theorem dX10_staple_38 : decode cX10_staple 38 = .ok (.aload_n 0, 1) := by decide +kernel
theorem dX10_staple_39 : decode cX10_staple 39 = .ok (.getfield 7, 3) := by decide +kernel
theorem dX10_staple_42 : decode cX10_staple 42 = .ok (.bipush 9, 2) := by decide +kernel
theorem dX10_staple_44 : decode cX10_staple 44 = .ok (.iaload, 1) := by decide +kernel
theorem dX10_staple_45 : decode cX10_staple 45 = .ok (.invokestatic 170, 3) := by decide +kernel
theorem dX10_staple_48 : decode cX10_staple 48 = .ok (.iconst 3, 1) := by decide +kernel
theorem dX10_staple_49 : decode cX10_staple 49 = .ok (.if_icmp .ne 6, 3) := by decide +kernel
theorem dX10_staple_52 : decode cX10_staple 52 = .ok (.bipush (-3), 2) := by decide +kernel
theorem dX10_staple_54 : decode cX10_staple 54 = .ok (.ireturn, 1) := by decide +kernel
theorem dX10_staple_55 : decode cX10_staple 55 = .ok (.aload_n 0, 1) := by decide +kernel
theorem dX10_staple_56 : decode cX10_staple 56 = .ok (.invokevirtual 139, 3) := by decide +kernel
theorem dX10_staple_59 : decode cX10_staple 59 = .ok (.aload_n 0, 1) := by decide +kernel
theorem dX10_staple_60 : decode cX10_staple 60 = .ok (.getfield 7, 3) := by decide +kernel
theorem dX10_staple_63 : decode cX10_staple 63 = .ok (.bipush 9, 2) := by decide +kernel
theorem dX10_staple_65 : decode cX10_staple 65 = .ok (.dup2, 1) := by decide +kernel
theorem dX10_staple_66 : decode cX10_staple 66 = .ok (.iaload, 1) := by decide +kernel
theorem dX10_staple_67 : decode cX10_staple 67 = .ok (.iconst 1, 1) := by decide +kernel
theorem dX10_staple_68 : decode cX10_staple 68 = .ok (.iload_n 1, 1) := by decide +kernel
theorem dX10_staple_69 : decode cX10_staple 69 = .ok (.ishl, 1) := by decide +kernel
theorem dX10_staple_70 : decode cX10_staple 70 = .ok (.ior, 1) := by decide +kernel
theorem dX10_staple_71 : decode cX10_staple 71 = .ok (.iastore, 1) := by decide +kernel
theorem dX10_staple_72 : decode cX10_staple 72 = .ok (.aload_n 0, 1) := by decide +kernel
theorem dX10_staple_73 : decode cX10_staple 73 = .ok (.getfield 7, 3) := by decide +kernel
theorem dX10_staple_76 : decode cX10_staple 76 = .ok (.bipush 89, 2) := by decide +kernel
theorem dX10_staple_78 : decode cX10_staple 78 = .ok (.dup2, 1) := by decide +kernel
theorem dX10_staple_79 : decode cX10_staple 79 = .ok (.iaload, 1) := by decide +kernel
theorem dX10_staple_80 : decode cX10_staple 80 = .ok (.iconst 3, 1) := by decide +kernel
theorem dX10_staple_81 : decode cX10_staple 81 = .ok (.iadd, 1) := by decide +kernel
theorem dX10_staple_82 : decode cX10_staple 82 = .ok (.iastore, 1) := by decide +kernel
theorem dX10_staple_83 : decode cX10_staple 83 = .ok (.aload_n 0, 1) := by decide +kernel
theorem dX10_staple_84 : decode cX10_staple 84 = .ok (.getfield 7, 3) := by decide +kernel
theorem dX10_staple_87 : decode cX10_staple 87 = .ok (.bipush 10, 2) := by decide +kernel
theorem dX10_staple_89 : decode cX10_staple 89 = .ok (.iaload, 1) := by decide +kernel
theorem dX10_staple_90 : decode cX10_staple 90 = .ok (.aload_n 0, 1) := by decide +kernel
theorem dX10_staple_91 : decode cX10_staple 91 = .ok (.getfield 78, 3) := by decide +kernel
theorem dX10_staple_94 : decode cX10_staple 94 = .ok (.if_icmp .ge 13, 3) := by decide +kernel
theorem dX10_staple_97 : decode cX10_staple 97 = .ok (.aload_n 0, 1) := by decide +kernel
theorem dX10_staple_98 : decode cX10_staple 98 = .ok (.getfield 7, 3) := by decide +kernel
theorem dX10_staple_101 : decode cX10_staple 101 = .ok (.bipush 10, 2) := by decide +kernel
theorem dX10_staple_103 : decode cX10_staple 103 = .ok (.iaload, 1) := by decide +kernel
theorem dX10_staple_104 : decode cX10_staple 104 = .ok (.goto 7, 3) := by decide +kernel
theorem dX10_staple_107 : decode cX10_staple 107 = .ok (.aload_n 0, 1) := by decide +kernel
theorem dX10_staple_108 : decode cX10_staple 108 = .ok (.getfield 78, 3) := by decide +kernel
theorem dX10_staple_111 : decode cX10_staple 111 = .ok (.ireturn, 1) := by decide +kernel
theorem dX10_unstaple_0 : decode cX10_unstaple 0 = .ok (.iload_n 1, 1) := by decide +kernel
theorem dX10_unstaple_1 : decode cX10_unstaple 1 = .ok (.i2l, 1) := by decide +kernel
theorem dX10_unstaple_2 : decode cX10_unstaple 2 = .ok (.lconst 0, 1) := by decide +kernel
theorem dX10_unstaple_3 : decode cX10_unstaple 3 = .ok (.ldc2_w 168, 3) := by decide +kernel
theorem dX10_unstaple_6 : decode cX10_unstaple 6 = .ok (.invokestatic 101, 3) := by decide +kernel
theorem dX10_unstaple_9 : decode cX10_unstaple 9 = .ok (.ifCond .ne 5, 3) := by decide +kernel
theorem dX10_unstaple_12 : decode cX10_unstaple 12 = .ok (.iconst (-1), 1) := by decide +kernel
theorem dX10_unstaple_13 : decode cX10_unstaple 13 = .ok (.ireturn, 1) := by decide +kernel
theorem dX10_unstaple_14 : decode cX10_unstaple 14 = .ok (.aload_n 0, 1) := by decide +kernel
theorem dX10_unstaple_15 : decode cX10_unstaple 15 = .ok (.getfield 7, 3) := by decide +kernel
theorem dX10_unstaple_18 : decode cX10_unstaple 18 = .ok (.bipush 9, 2) := by decide +kernel
theorem dX10_unstaple_20 : decode cX10_unstaple 20 = .ok (.iaload, 1) := by decide +kernel
theorem dX10_unstaple_21 : decode cX10_unstaple 21 = .ok (.iload_n 1, 1) := by decide +kernel
theorem dX10_unstaple_22 : decode cX10_unstaple 22 = .ok (.invokestatic 120, 3) := by decide +kernel
theorem dX10_unstaple_25 : decode cX10_unstaple 25 = .ok (.ifCond .ne 6, 3) := by decide +kernel
theorem dX10_unstaple_28 : decode cX10_unstaple 28 = .ok (.bipush (-2), 2) := by decide +kernel
theorem dX10_unstaple_30 : decode cX10_unstaple 30 = .ok (.ireturn, 1) := by decide +kernel
theorem dX10_unstaple_31 : decode cX10_unstaple 31 = .ok (.aload_n 0, 1) := by decide +kernel
theorem dX10_unstaple_32 : decode cX10_unstaple 32 = .ok (.invokevirtual 139, 3) := by decide +kernel
theorem dX10_unstaple_35 : decode cX10_unstaple 35 = .ok (.aload_n 0, 1) := by decide +kernel
theorem dX10_unstaple_36 : decode cX10_unstaple 36 = .ok (.getfield 7, 3) := by decide +kernel
theorem dX10_unstaple_39 : decode cX10_unstaple 39 = .ok (.bipush 9, 2) := by decide +kernel
theorem dX10_unstaple_41 : decode cX10_unstaple 41 = .ok (.dup2, 1) := by decide +kernel
theorem dX10_unstaple_42 : decode cX10_unstaple 42 = .ok (.iaload, 1) := by decide +kernel
theorem dX10_unstaple_43 : decode cX10_unstaple 43 = .ok (.iconst 1, 1) := by decide +kernel
theorem dX10_unstaple_44 : decode cX10_unstaple 44 = .ok (.iload_n 1, 1) := by decide +kernel
theorem dX10_unstaple_45 : decode cX10_unstaple 45 = .ok (.ishl, 1) := by decide +kernel
theorem dX10_unstaple_46 : decode cX10_unstaple 46 = .ok (.iconst (-1), 1) := by decide +kernel
theorem dX10_unstaple_47 : decode cX10_unstaple 47 = .ok (.ixor, 1) := by decide +kernel
theorem dX10_unstaple_48 : decode cX10_unstaple 48 = .ok (.iand, 1) := by decide +kernel
theorem dX10_unstaple_49 : decode cX10_unstaple 49 = .ok (.iastore, 1) := by decide +kernel
theorem dX10_unstaple_50 : decode cX10_unstaple 50 = .ok (.aload_n 0, 1) := by decide +kernel
theorem dX10_unstaple_51 : decode cX10_unstaple 51 = .ok (.getfield 7, 3) := by decide +kernel
theorem dX10_unstaple_54 : decode cX10_unstaple 54 = .ok (.bipush 89, 2) := by decide +kernel
theorem dX10_unstaple_56 : decode cX10_unstaple 56 = .ok (.dup2, 1) := by decide +kernel
theorem dX10_unstaple_57 : decode cX10_unstaple 57 = .ok (.iaload, 1) := by decide +kernel
theorem dX10_unstaple_58 : decode cX10_unstaple 58 = .ok (.iconst 1, 1) := by decide +kernel
theorem dX10_unstaple_59 : decode cX10_unstaple 59 = .ok (.iadd, 1) := by decide +kernel
theorem dX10_unstaple_60 : decode cX10_unstaple 60 = .ok (.iastore, 1) := by decide +kernel
theorem dX10_unstaple_61 : decode cX10_unstaple 61 = .ok (.aload_n 0, 1) := by decide +kernel
theorem dX10_unstaple_62 : decode cX10_unstaple 62 = .ok (.getfield 7, 3) := by decide +kernel
theorem dX10_unstaple_65 : decode cX10_unstaple 65 = .ok (.bipush 9, 2) := by decide +kernel
theorem dX10_unstaple_67 : decode cX10_unstaple 67 = .ok (.iaload, 1) := by decide +kernel
theorem dX10_unstaple_68 : decode cX10_unstaple 68 = .ok (.invokestatic 170, 3) := by decide +kernel
theorem dX10_unstaple_71 : decode cX10_unstaple 71 = .ok (.ireturn, 1) := by decide +kernel
theorem dX10_setLegs_0 : decode cX10_setLegs 0 = .ok (.iload_n 1, 1) := by decide +kernel
theorem dX10_setLegs_1 : decode cX10_setLegs 1 = .ok (.i2l, 1) := by decide +kernel
theorem dX10_setLegs_2 : decode cX10_setLegs 2 = .ok (.lconst 1, 1) := by decide +kernel
theorem dX10_setLegs_3 : decode cX10_setLegs 3 = .ok (.ldc2_w 173, 3) := by decide +kernel
theorem dX10_setLegs_6 : decode cX10_setLegs 6 = .ok (.invokestatic 101, 3) := by decide +kernel
theorem dX10_setLegs_9 : decode cX10_setLegs 9 = .ok (.ifCond .ne 5, 3) := by decide +kernel
theorem dX10_setLegs_12 : decode cX10_setLegs 12 = .ok (.iconst (-1), 1) := by decide +kernel
theorem dX10_setLegs_13 : decode cX10_setLegs 13 = .ok (.ireturn, 1) := by decide +kernel
theorem dX10_setLegs_14 : decode cX10_setLegs 14 = .ok (.aload_n 0, 1) := by decide +kernel
theorem dX10_setLegs_15 : decode cX10_setLegs 15 = .ok (.invokevirtual 139, 3) := by decide +kernel
theorem dX10_setLegs_18 : decode cX10_setLegs 18 = .ok (.aload_n 0, 1) := by decide +kernel
theorem dX10_setLegs_19 : decode cX10_setLegs 19 = .ok (.getfield 7, 3) := by decide +kernel
theorem dX10_setLegs_22 : decode cX10_setLegs 22 = .ok (.bipush 10, 2) := by decide +kernel
theorem dX10_setLegs_24 : decode cX10_setLegs 24 = .ok (.iaload, 1) := by decide +kernel
theorem dX10_setLegs_25 : decode cX10_setLegs 25 = .ok (.istore_n 2, 1) := by decide +kernel
theorem dX10_setLegs_26 : decode cX10_setLegs 26 = .ok (.aload_n 0, 1) := by decide +kernel
theorem dX10_setLegs_27 : decode cX10_setLegs 27 = .ok (.getfield 7, 3) := by decide +kernel
theorem dX10_setLegs_30 : decode cX10_setLegs 30 = .ok (.bipush 10, 2) := by decide +kernel
theorem dX10_setLegs_32 : decode cX10_setLegs 32 = .ok (.iload_n 1, 1) := by decide +kernel
theorem dX10_setLegs_33 : decode cX10_setLegs 33 = .ok (.iastore, 1) := by decide +kernel
theorem dX10_setLegs_34 : decode cX10_setLegs 34 = .ok (.iload_n 2, 1) := by decide +kernel
theorem dX10_setLegs_35 : decode cX10_setLegs 35 = .ok (.ireturn, 1) := by decide +kernel
theorem dX10_see_0 : decode cX10_see 0 = .ok (.iload_n 1, 1) := by decide +kernel
theorem dX10_see_1 : decode cX10_see 1 = .ok (.i2l, 1) := by decide +kernel
theorem dX10_see_2 : decode cX10_see 2 = .ok (.lconst 0, 1) := by decide +kernel
theorem dX10_see_3 : decode cX10_see 3 = .ok (.iconst 2, 1) := by decide +kernel
theorem dX10_see_4 : decode cX10_see 4 = .ok (.aload_n 0, 1) := by decide +kernel
theorem dX10_see_5 : decode cX10_see 5 = .ok (.invokevirtual 95, 3) := by decide +kernel
theorem dX10_see_8 : decode cX10_see 8 = .ok (.imul, 1) := by decide +kernel
theorem dX10_see_9 : decode cX10_see 9 = .ok (.iconst 1, 1) := by decide +kernel
theorem dX10_see_10 : decode cX10_see 10 = .ok (.isub, 1) := by decide +kernel
theorem dX10_see_11 : decode cX10_see 11 = .ok (.i2l, 1) := by decide +kernel
theorem dX10_see_12 : decode cX10_see 12 = .ok (.invokestatic 101, 3) := by decide +kernel
theorem dX10_see_15 : decode cX10_see 15 = .ok (.ifCond .eq 25, 3) := by decide +kernel
theorem dX10_see_18 : decode cX10_see 18 = .ok (.iload_n 2, 1) := by decide +kernel
theorem dX10_see_19 : decode cX10_see 19 = .ok (.i2l, 1) := by decide +kernel
theorem dX10_see_20 : decode cX10_see 20 = .ok (.lconst 0, 1) := by decide +kernel
theorem dX10_see_21 : decode cX10_see 21 = .ok (.ldc2_w 151, 3) := by decide +kernel
theorem dX10_see_24 : decode cX10_see 24 = .ok (.invokestatic 101, 3) := by decide +kernel
theorem dX10_see_27 : decode cX10_see 27 = .ok (.ifCond .eq 13, 3) := by decide +kernel
theorem dX10_see_30 : decode cX10_see 30 = .ok (.iload_n 3, 1) := by decide +kernel
theorem dX10_see_31 : decode cX10_see 31 = .ok (.i2l, 1) := by decide +kernel
theorem dX10_see_32 : decode cX10_see 32 = .ok (.lconst 0, 1) := by decide +kernel
theorem dX10_see_33 : decode cX10_see 33 = .ok (.lconst 1, 1) := by decide +kernel
theorem dX10_see_34 : decode cX10_see 34 = .ok (.invokestatic 101, 3) := by decide +kernel
theorem dX10_see_37 : decode cX10_see 37 = .ok (.ifCond .ne 5, 3) := by decide +kernel
theorem dX10_see_40 : decode cX10_see 40 = .ok (.iconst (-1), 1) := by decide +kernel
theorem dX10_see_41 : decode cX10_see 41 = .ok (.ireturn, 1) := by decide +kernel
theorem dX10_see_42 : decode cX10_see 42 = .ok (.aload_n 0, 1) := by decide +kernel
theorem dX10_see_43 : decode cX10_see 43 = .ok (.getfield 7, 3) := by decide +kernel
theorem dX10_see_46 : decode cX10_see 46 = .ok (.bipush 12, 2) := by decide +kernel
theorem dX10_see_48 : decode cX10_see 48 = .ok (.iaload, 1) := by decide +kernel
theorem dX10_see_49 : decode cX10_see 49 = .ok (.bipush 8, 2) := by decide +kernel
theorem dX10_see_51 : decode cX10_see 51 = .ok (.if_icmp .ne 6, 3) := by decide +kernel
theorem dX10_see_54 : decode cX10_see 54 = .ok (.bipush (-3), 2) := by decide +kernel
theorem dX10_see_56 : decode cX10_see 56 = .ok (.ireturn, 1) := by decide +kernel
theorem dX10_see_57 : decode cX10_see 57 = .ok (.aload_n 0, 1) := by decide +kernel
theorem dX10_see_58 : decode cX10_see 58 = .ok (.invokevirtual 139, 3) := by decide +kernel
theorem dX10_see_61 : decode cX10_see 61 = .ok (.bipush 13, 2) := by decide +kernel
theorem dX10_see_63 : decode cX10_see 63 = .ok (.iconst 3, 1) := by decide +kernel
theorem dX10_see_64 : decode cX10_see 64 = .ok (.aload_n 0, 1) := by decide +kernel
theorem dX10_see_65 : decode cX10_see 65 = .ok (.getfield 7, 3) := by decide +kernel
theorem dX10_see_68 : decode cX10_see 68 = .ok (.bipush 12, 2) := by decide +kernel
theorem dX10_see_70 : decode cX10_see 70 = .ok (.iaload, 1) := by decide +kernel
theorem dX10_see_71 : decode cX10_see 71 = .ok (.imul, 1) := by decide +kernel
theorem dX10_see_72 : decode cX10_see 72 = .ok (.iadd, 1) := by decide +kernel
theorem dX10_see_73 : decode cX10_see 73 = .ok (.istore 4, 2) := by decide +kernel
theorem dX10_see_75 : decode cX10_see 75 = .ok (.aload_n 0, 1) := by decide +kernel
theorem dX10_see_76 : decode cX10_see 76 = .ok (.getfield 7, 3) := by decide +kernel
theorem dX10_see_79 : decode cX10_see 79 = .ok (.iload 4, 2) := by decide +kernel
theorem dX10_see_81 : decode cX10_see 81 = .ok (.iload_n 1, 1) := by decide +kernel
theorem dX10_see_82 : decode cX10_see 82 = .ok (.iastore, 1) := by decide +kernel
theorem dX10_see_83 : decode cX10_see 83 = .ok (.aload_n 0, 1) := by decide +kernel
theorem dX10_see_84 : decode cX10_see 84 = .ok (.getfield 7, 3) := by decide +kernel
theorem dX10_see_87 : decode cX10_see 87 = .ok (.iload 4, 2) := by decide +kernel
theorem dX10_see_89 : decode cX10_see 89 = .ok (.iconst 1, 1) := by decide +kernel
theorem dX10_see_90 : decode cX10_see 90 = .ok (.iadd, 1) := by decide +kernel
theorem dX10_see_91 : decode cX10_see 91 = .ok (.iload_n 2, 1) := by decide +kernel
theorem dX10_see_92 : decode cX10_see 92 = .ok (.iastore, 1) := by decide +kernel
theorem dX10_see_93 : decode cX10_see 93 = .ok (.aload_n 0, 1) := by decide +kernel
theorem dX10_see_94 : decode cX10_see 94 = .ok (.getfield 7, 3) := by decide +kernel
theorem dX10_see_97 : decode cX10_see 97 = .ok (.iload 4, 2) := by decide +kernel
theorem dX10_see_99 : decode cX10_see 99 = .ok (.iconst 2, 1) := by decide +kernel
theorem dX10_see_100 : decode cX10_see 100 = .ok (.iadd, 1) := by decide +kernel
theorem dX10_see_101 : decode cX10_see 101 = .ok (.iload_n 3, 1) := by decide +kernel
theorem dX10_see_102 : decode cX10_see 102 = .ok (.iastore, 1) := by decide +kernel
theorem dX10_see_103 : decode cX10_see 103 = .ok (.aload_n 0, 1) := by decide +kernel
theorem dX10_see_104 : decode cX10_see 104 = .ok (.getfield 7, 3) := by decide +kernel
theorem dX10_see_107 : decode cX10_see 107 = .ok (.bipush 12, 2) := by decide +kernel
theorem dX10_see_109 : decode cX10_see 109 = .ok (.dup2, 1) := by decide +kernel
theorem dX10_see_110 : decode cX10_see 110 = .ok (.iaload, 1) := by decide +kernel
theorem dX10_see_111 : decode cX10_see 111 = .ok (.iconst 1, 1) := by decide +kernel
theorem dX10_see_112 : decode cX10_see 112 = .ok (.iadd, 1) := by decide +kernel
theorem dX10_see_113 : decode cX10_see 113 = .ok (.iastore, 1) := by decide +kernel
theorem dX10_see_114 : decode cX10_see 114 = .ok (.aload_n 0, 1) := by decide +kernel
theorem dX10_see_115 : decode cX10_see 115 = .ok (.getfield 7, 3) := by decide +kernel
theorem dX10_see_118 : decode cX10_see 118 = .ok (.bipush 12, 2) := by decide +kernel
theorem dX10_see_120 : decode cX10_see 120 = .ok (.iaload, 1) := by decide +kernel
theorem dX10_see_121 : decode cX10_see 121 = .ok (.ireturn, 1) := by decide +kernel
theorem dX10_forget_0 : decode cX10_forget 0 = .ok (.aload_n 0, 1) := by decide +kernel
theorem dX10_forget_1 : decode cX10_forget 1 = .ok (.invokevirtual 139, 3) := by decide +kernel
theorem dX10_forget_4 : decode cX10_forget 4 = .ok (.aload_n 0, 1) := by decide +kernel
theorem dX10_forget_5 : decode cX10_forget 5 = .ok (.getfield 7, 3) := by decide +kernel
theorem dX10_forget_8 : decode cX10_forget 8 = .ok (.bipush 12, 2) := by decide +kernel
theorem dX10_forget_10 : decode cX10_forget 10 = .ok (.iaload, 1) := by decide +kernel
theorem dX10_forget_11 : decode cX10_forget 11 = .ok (.istore_n 1, 1) := by decide +kernel
theorem dX10_forget_12 : decode cX10_forget 12 = .ok (.aload_n 0, 1) := by decide +kernel
theorem dX10_forget_13 : decode cX10_forget 13 = .ok (.getfield 7, 3) := by decide +kernel
theorem dX10_forget_16 : decode cX10_forget 16 = .ok (.bipush 12, 2) := by decide +kernel
theorem dX10_forget_18 : decode cX10_forget 18 = .ok (.iconst 0, 1) := by decide +kernel
theorem dX10_forget_19 : decode cX10_forget 19 = .ok (.iastore, 1) := by decide +kernel
theorem dX10_forget_20 : decode cX10_forget 20 = .ok (.iload_n 1, 1) := by decide +kernel
theorem dX10_forget_21 : decode cX10_forget 21 = .ok (.ireturn, 1) := by decide +kernel
theorem dX10_addNote_0 : decode cX10_addNote 0 = .ok (.iload_n 1, 1) := by decide +kernel
theorem dX10_addNote_1 : decode cX10_addNote 1 = .ok (.i2l, 1) := by decide +kernel
theorem dX10_addNote_2 : decode cX10_addNote 2 = .ok (.lconst 0, 1) := by decide +kernel
theorem dX10_addNote_3 : decode cX10_addNote 3 = .ok (.ldc2_w 175, 3) := by decide +kernel
theorem dX10_addNote_6 : decode cX10_addNote 6 = .ok (.invokestatic 101, 3) := by decide +kernel
theorem dX10_addNote_9 : decode cX10_addNote 9 = .ok (.ifCond .eq 38, 3) := by decide +kernel
theorem dX10_addNote_12 : decode cX10_addNote 12 = .ok (.iload_n 2, 1) := by decide +kernel
theorem dX10_addNote_13 : decode cX10_addNote 13 = .ok (.i2l, 1) := by decide +kernel
theorem dX10_addNote_14 : decode cX10_addNote 14 = .ok (.lconst 0, 1) := by decide +kernel
theorem dX10_addNote_15 : decode cX10_addNote 15 = .ok (.ldc2_w 168, 3) := by decide +kernel
theorem dX10_addNote_18 : decode cX10_addNote 18 = .ok (.invokestatic 101, 3) := by decide +kernel
theorem dX10_addNote_21 : decode cX10_addNote 21 = .ok (.ifCond .eq 26, 3) := by decide +kernel
theorem dX10_addNote_24 : decode cX10_addNote 24 = .ok (.iload_n 3, 1) := by decide +kernel
theorem dX10_addNote_25 : decode cX10_addNote 25 = .ok (.i2l, 1) := by decide +kernel
theorem dX10_addNote_26 : decode cX10_addNote 26 = .ok (.lconst 1, 1) := by decide +kernel
theorem dX10_addNote_27 : decode cX10_addNote 27 = .ok (.ldc2_w 177, 3) := by decide +kernel
theorem dX10_addNote_30 : decode cX10_addNote 30 = .ok (.invokestatic 101, 3) := by decide +kernel
theorem dX10_addNote_33 : decode cX10_addNote 33 = .ok (.ifCond .eq 14, 3) := by decide +kernel
theorem dX10_addNote_36 : decode cX10_addNote 36 = .ok (.iload 4, 2) := by decide +kernel
theorem dX10_addNote_38 : decode cX10_addNote 38 = .ok (.i2l, 1) := by decide +kernel
theorem dX10_addNote_39 : decode cX10_addNote 39 = .ok (.lconst 0, 1) := by decide +kernel
theorem dX10_addNote_40 : decode cX10_addNote 40 = .ok (.lconst 1, 1) := by decide +kernel
theorem dX10_addNote_41 : decode cX10_addNote 41 = .ok (.invokestatic 101, 3) := by decide +kernel
theorem dX10_addNote_44 : decode cX10_addNote 44 = .ok (.ifCond .ne 5, 3) := by decide +kernel
theorem dX10_addNote_47 : decode cX10_addNote 47 = .ok (.iconst (-1), 1) := by decide +kernel
theorem dX10_addNote_48 : decode cX10_addNote 48 = .ok (.ireturn, 1) := by decide +kernel
theorem dX10_addNote_49 : decode cX10_addNote 49 = .ok (.aload_n 0, 1) := by decide +kernel
theorem dX10_addNote_50 : decode cX10_addNote 50 = .ok (.getfield 7, 3) := by decide +kernel
theorem dX10_addNote_53 : decode cX10_addNote 53 = .ok (.bipush 37, 2) := by decide +kernel
theorem dX10_addNote_55 : decode cX10_addNote 55 = .ok (.iaload, 1) := by decide +kernel
theorem dX10_addNote_56 : decode cX10_addNote 56 = .ok (.bipush 12, 2) := by decide +kernel
theorem dX10_addNote_58 : decode cX10_addNote 58 = .ok (.if_icmp .ne 6, 3) := by decide +kernel
theorem dX10_addNote_61 : decode cX10_addNote 61 = .ok (.bipush (-3), 2) := by decide +kernel
theorem dX10_addNote_63 : decode cX10_addNote 63 = .ok (.ireturn, 1) := by decide +kernel
theorem dX10_addNote_64 : decode cX10_addNote 64 = .ok (.aload_n 0, 1) := by decide +kernel
theorem dX10_addNote_65 : decode cX10_addNote 65 = .ok (.invokevirtual 139, 3) := by decide +kernel
theorem dX10_addNote_68 : decode cX10_addNote 68 = .ok (.bipush 38, 2) := by decide +kernel
theorem dX10_addNote_70 : decode cX10_addNote 70 = .ok (.iconst 4, 1) := by decide +kernel
theorem dX10_addNote_71 : decode cX10_addNote 71 = .ok (.aload_n 0, 1) := by decide +kernel
theorem dX10_addNote_72 : decode cX10_addNote 72 = .ok (.getfield 7, 3) := by decide +kernel
theorem dX10_addNote_75 : decode cX10_addNote 75 = .ok (.bipush 37, 2) := by decide +kernel
theorem dX10_addNote_77 : decode cX10_addNote 77 = .ok (.iaload, 1) := by decide +kernel
theorem dX10_addNote_78 : decode cX10_addNote 78 = .ok (.imul, 1) := by decide +kernel
theorem dX10_addNote_79 : decode cX10_addNote 79 = .ok (.iadd, 1) := by decide +kernel
theorem dX10_addNote_80 : decode cX10_addNote 80 = .ok (.istore 5, 2) := by decide +kernel
theorem dX10_addNote_82 : decode cX10_addNote 82 = .ok (.aload_n 0, 1) := by decide +kernel
theorem dX10_addNote_83 : decode cX10_addNote 83 = .ok (.getfield 7, 3) := by decide +kernel
theorem dX10_addNote_86 : decode cX10_addNote 86 = .ok (.iload 5, 2) := by decide +kernel
theorem dX10_addNote_88 : decode cX10_addNote 88 = .ok (.iload_n 1, 1) := by decide +kernel
theorem dX10_addNote_89 : decode cX10_addNote 89 = .ok (.iastore, 1) := by decide +kernel
theorem dX10_addNote_90 : decode cX10_addNote 90 = .ok (.aload_n 0, 1) := by decide +kernel
theorem dX10_addNote_91 : decode cX10_addNote 91 = .ok (.getfield 7, 3) := by decide +kernel
theorem dX10_addNote_94 : decode cX10_addNote 94 = .ok (.iload 5, 2) := by decide +kernel
theorem dX10_addNote_96 : decode cX10_addNote 96 = .ok (.iconst 1, 1) := by decide +kernel
theorem dX10_addNote_97 : decode cX10_addNote 97 = .ok (.iadd, 1) := by decide +kernel
theorem dX10_addNote_98 : decode cX10_addNote 98 = .ok (.iload_n 2, 1) := by decide +kernel
theorem dX10_addNote_99 : decode cX10_addNote 99 = .ok (.iastore, 1) := by decide +kernel
theorem dX10_addNote_100 : decode cX10_addNote 100 = .ok (.aload_n 0, 1) := by decide +kernel
theorem dX10_addNote_101 : decode cX10_addNote 101 = .ok (.getfield 7, 3) := by decide +kernel
theorem dX10_addNote_104 : decode cX10_addNote 104 = .ok (.iload 5, 2) := by decide +kernel
theorem dX10_addNote_106 : decode cX10_addNote 106 = .ok (.iconst 2, 1) := by decide +kernel
theorem dX10_addNote_107 : decode cX10_addNote 107 = .ok (.iadd, 1) := by decide +kernel
theorem dX10_addNote_108 : decode cX10_addNote 108 = .ok (.iload_n 3, 1) := by decide +kernel
theorem dX10_addNote_109 : decode cX10_addNote 109 = .ok (.iastore, 1) := by decide +kernel
theorem dX10_addNote_110 : decode cX10_addNote 110 = .ok (.aload_n 0, 1) := by decide +kernel
theorem dX10_addNote_111 : decode cX10_addNote 111 = .ok (.getfield 7, 3) := by decide +kernel
theorem dX10_addNote_114 : decode cX10_addNote 114 = .ok (.iload 5, 2) := by decide +kernel
theorem dX10_addNote_116 : decode cX10_addNote 116 = .ok (.iconst 3, 1) := by decide +kernel
theorem dX10_addNote_117 : decode cX10_addNote 117 = .ok (.iadd, 1) := by decide +kernel
theorem dX10_addNote_118 : decode cX10_addNote 118 = .ok (.iload 4, 2) := by decide +kernel
theorem dX10_addNote_120 : decode cX10_addNote 120 = .ok (.iastore, 1) := by decide +kernel
theorem dX10_addNote_121 : decode cX10_addNote 121 = .ok (.aload_n 0, 1) := by decide +kernel
theorem dX10_addNote_122 : decode cX10_addNote 122 = .ok (.getfield 7, 3) := by decide +kernel
theorem dX10_addNote_125 : decode cX10_addNote 125 = .ok (.bipush 37, 2) := by decide +kernel
theorem dX10_addNote_127 : decode cX10_addNote 127 = .ok (.dup2, 1) := by decide +kernel
theorem dX10_addNote_128 : decode cX10_addNote 128 = .ok (.iaload, 1) := by decide +kernel
theorem dX10_addNote_129 : decode cX10_addNote 129 = .ok (.iconst 1, 1) := by decide +kernel
theorem dX10_addNote_130 : decode cX10_addNote 130 = .ok (.iadd, 1) := by decide +kernel
theorem dX10_addNote_131 : decode cX10_addNote 131 = .ok (.iastore, 1) := by decide +kernel
theorem dX10_addNote_132 : decode cX10_addNote 132 = .ok (.aload_n 0, 1) := by decide +kernel
theorem dX10_addNote_133 : decode cX10_addNote 133 = .ok (.getfield 7, 3) := by decide +kernel
theorem dX10_addNote_136 : decode cX10_addNote 136 = .ok (.bipush 37, 2) := by decide +kernel
theorem dX10_addNote_138 : decode cX10_addNote 138 = .ok (.iaload, 1) := by decide +kernel
theorem dX10_addNote_139 : decode cX10_addNote 139 = .ok (.iconst 1, 1) := by decide +kernel
theorem dX10_addNote_140 : decode cX10_addNote 140 = .ok (.isub, 1) := by decide +kernel
theorem dX10_addNote_141 : decode cX10_addNote 141 = .ok (.ireturn, 1) := by decide +kernel
theorem dX10_removeNote_0 : decode cX10_removeNote 0 = .ok (.iload_n 1, 1) := by decide +kernel
theorem dX10_removeNote_1 : decode cX10_removeNote 1 = .ok (.i2l, 1) := by decide +kernel
theorem dX10_removeNote_2 : decode cX10_removeNote 2 = .ok (.lconst 0, 1) := by decide +kernel
theorem dX10_removeNote_3 : decode cX10_removeNote 3 = .ok (.aload_n 0, 1) := by decide +kernel
theorem dX10_removeNote_4 : decode cX10_removeNote 4 = .ok (.getfield 7, 3) := by decide +kernel
theorem dX10_removeNote_7 : decode cX10_removeNote 7 = .ok (.bipush 37, 2) := by decide +kernel
theorem dX10_removeNote_9 : decode cX10_removeNote 9 = .ok (.iaload, 1) := by decide +kernel
theorem dX10_removeNote_10 : decode cX10_removeNote 10 = .ok (.iconst 1, 1) := by decide +kernel
theorem dX10_removeNote_11 : decode cX10_removeNote 11 = .ok (.isub, 1) := by decide +kernel
theorem dX10_removeNote_12 : decode cX10_removeNote 12 = .ok (.i2l, 1) := by decide +kernel
theorem dX10_removeNote_13 : decode cX10_removeNote 13 = .ok (.invokestatic 101, 3) := by decide +kernel
theorem dX10_removeNote_16 : decode cX10_removeNote 16 = .ok (.ifCond .ne 5, 3) := by decide +kernel
theorem dX10_removeNote_19 : decode cX10_removeNote 19 = .ok (.iconst (-1), 1) := by decide +kernel
theorem dX10_removeNote_20 : decode cX10_removeNote 20 = .ok (.ireturn, 1) := by decide +kernel
theorem dX10_removeNote_21 : decode cX10_removeNote 21 = .ok (.aload_n 0, 1) := by decide +kernel
theorem dX10_removeNote_22 : decode cX10_removeNote 22 = .ok (.invokevirtual 139, 3) := by decide +kernel
theorem dX10_removeNote_25 : decode cX10_removeNote 25 = .ok (.aload_n 0, 1) := by decide +kernel
theorem dX10_removeNote_26 : decode cX10_removeNote 26 = .ok (.getfield 7, 3) := by decide +kernel
theorem dX10_removeNote_29 : decode cX10_removeNote 29 = .ok (.bipush 37, 2) := by decide +kernel
theorem dX10_removeNote_31 : decode cX10_removeNote 31 = .ok (.dup2, 1) := by decide +kernel
theorem dX10_removeNote_32 : decode cX10_removeNote 32 = .ok (.iaload, 1) := by decide +kernel
theorem dX10_removeNote_33 : decode cX10_removeNote 33 = .ok (.iconst 1, 1) := by decide +kernel
theorem dX10_removeNote_34 : decode cX10_removeNote 34 = .ok (.isub, 1) := by decide +kernel
theorem dX10_removeNote_35 : decode cX10_removeNote 35 = .ok (.iastore, 1) := by decide +kernel
theorem dX10_removeNote_36 : decode cX10_removeNote 36 = .ok (.bipush 38, 2) := by decide +kernel
theorem dX10_removeNote_38 : decode cX10_removeNote 38 = .ok (.iconst 4, 1) := by decide +kernel
theorem dX10_removeNote_39 : decode cX10_removeNote 39 = .ok (.iload_n 1, 1) := by decide +kernel
theorem dX10_removeNote_40 : decode cX10_removeNote 40 = .ok (.imul, 1) := by decide +kernel
theorem dX10_removeNote_41 : decode cX10_removeNote 41 = .ok (.iadd, 1) := by decide +kernel
theorem dX10_removeNote_42 : decode cX10_removeNote 42 = .ok (.istore_n 2, 1) := by decide +kernel
theorem dX10_removeNote_43 : decode cX10_removeNote 43 = .ok (.iload_n 2, 1) := by decide +kernel
theorem dX10_removeNote_44 : decode cX10_removeNote 44 = .ok (.bipush 38, 2) := by decide +kernel
theorem dX10_removeNote_46 : decode cX10_removeNote 46 = .ok (.iconst 4, 1) := by decide +kernel
theorem dX10_removeNote_47 : decode cX10_removeNote 47 = .ok (.aload_n 0, 1) := by decide +kernel
theorem dX10_removeNote_48 : decode cX10_removeNote 48 = .ok (.getfield 7, 3) := by decide +kernel
theorem dX10_removeNote_51 : decode cX10_removeNote 51 = .ok (.bipush 37, 2) := by decide +kernel
theorem dX10_removeNote_53 : decode cX10_removeNote 53 = .ok (.iaload, 1) := by decide +kernel
theorem dX10_removeNote_54 : decode cX10_removeNote 54 = .ok (.imul, 1) := by decide +kernel
theorem dX10_removeNote_55 : decode cX10_removeNote 55 = .ok (.iadd, 1) := by decide +kernel
theorem dX10_removeNote_56 : decode cX10_removeNote 56 = .ok (.if_icmp .ge 23, 3) := by decide +kernel
theorem dX10_removeNote_59 : decode cX10_removeNote 59 = .ok (.aload_n 0, 1) := by decide +kernel
theorem dX10_removeNote_60 : decode cX10_removeNote 60 = .ok (.getfield 7, 3) := by decide +kernel
theorem dX10_removeNote_63 : decode cX10_removeNote 63 = .ok (.iload_n 2, 1) := by decide +kernel
theorem dX10_removeNote_64 : decode cX10_removeNote 64 = .ok (.aload_n 0, 1) := by decide +kernel
theorem dX10_removeNote_65 : decode cX10_removeNote 65 = .ok (.getfield 7, 3) := by decide +kernel
theorem dX10_removeNote_68 : decode cX10_removeNote 68 = .ok (.iload_n 2, 1) := by decide +kernel
theorem dX10_removeNote_69 : decode cX10_removeNote 69 = .ok (.iconst 4, 1) := by decide +kernel
theorem dX10_removeNote_70 : decode cX10_removeNote 70 = .ok (.iadd, 1) := by decide +kernel
theorem dX10_removeNote_71 : decode cX10_removeNote 71 = .ok (.iaload, 1) := by decide +kernel
theorem dX10_removeNote_72 : decode cX10_removeNote 72 = .ok (.iastore, 1) := by decide +kernel
theorem dX10_removeNote_73 : decode cX10_removeNote 73 = .ok (.iinc 2 1, 3) := by decide +kernel
theorem dX10_removeNote_76 : decode cX10_removeNote 76 = .ok (.goto (-33), 3) := by decide +kernel
theorem dX10_removeNote_79 : decode cX10_removeNote 79 = .ok (.aload_n 0, 1) := by decide +kernel
theorem dX10_removeNote_80 : decode cX10_removeNote 80 = .ok (.getfield 7, 3) := by decide +kernel
theorem dX10_removeNote_83 : decode cX10_removeNote 83 = .ok (.bipush 37, 2) := by decide +kernel
theorem dX10_removeNote_85 : decode cX10_removeNote 85 = .ok (.iaload, 1) := by decide +kernel
theorem dX10_removeNote_86 : decode cX10_removeNote 86 = .ok (.ireturn, 1) := by decide +kernel
theorem dX10_setLines_0 : decode cX10_setLines 0 = .ok (.iload_n 1, 1) := by decide +kernel
theorem dX10_setLines_1 : decode cX10_setLines 1 = .ok (.i2l, 1) := by decide +kernel
theorem dX10_setLines_2 : decode cX10_setLines 2 = .ok (.lconst 1, 1) := by decide +kernel
theorem dX10_setLines_3 : decode cX10_setLines 3 = .ok (.ldc2_w 168, 3) := by decide +kernel
theorem dX10_setLines_6 : decode cX10_setLines 6 = .ok (.invokestatic 101, 3) := by decide +kernel
theorem dX10_setLines_9 : decode cX10_setLines 9 = .ok (.ifCond .ne 5, 3) := by decide +kernel
theorem dX10_setLines_12 : decode cX10_setLines 12 = .ok (.iconst (-1), 1) := by decide +kernel
theorem dX10_setLines_13 : decode cX10_setLines 13 = .ok (.ireturn, 1) := by decide +kernel
theorem dX10_setLines_14 : decode cX10_setLines 14 = .ok (.aload_n 0, 1) := by decide +kernel
theorem dX10_setLines_15 : decode cX10_setLines 15 = .ok (.invokevirtual 139, 3) := by decide +kernel
theorem dX10_setLines_18 : decode cX10_setLines 18 = .ok (.aload_n 0, 1) := by decide +kernel
theorem dX10_setLines_19 : decode cX10_setLines 19 = .ok (.getfield 7, 3) := by decide +kernel
theorem dX10_setLines_22 : decode cX10_setLines 22 = .ok (.bipush 11, 2) := by decide +kernel
theorem dX10_setLines_24 : decode cX10_setLines 24 = .ok (.iaload, 1) := by decide +kernel
theorem dX10_setLines_25 : decode cX10_setLines 25 = .ok (.istore_n 2, 1) := by decide +kernel
theorem dX10_setLines_26 : decode cX10_setLines 26 = .ok (.aload_n 0, 1) := by decide +kernel
theorem dX10_setLines_27 : decode cX10_setLines 27 = .ok (.getfield 7, 3) := by decide +kernel
theorem dX10_setLines_30 : decode cX10_setLines 30 = .ok (.bipush 11, 2) := by decide +kernel
theorem dX10_setLines_32 : decode cX10_setLines 32 = .ok (.iload_n 1, 1) := by decide +kernel
theorem dX10_setLines_33 : decode cX10_setLines 33 = .ok (.iastore, 1) := by decide +kernel
theorem dX10_setLines_34 : decode cX10_setLines 34 = .ok (.iload_n 2, 1) := by decide +kernel
theorem dX10_setLines_35 : decode cX10_setLines 35 = .ok (.ireturn, 1) := by decide +kernel
theorem dX10_take_0 : decode cX10_take 0 = .ok (.iload_n 1, 1) := by decide +kernel
theorem dX10_take_1 : decode cX10_take 1 = .ok (.i2l, 1) := by decide +kernel
theorem dX10_take_2 : decode cX10_take 2 = .ok (.lconst 0, 1) := by decide +kernel
theorem dX10_take_3 : decode cX10_take 3 = .ok (.lconst 1, 1) := by decide +kernel
theorem dX10_take_4 : decode cX10_take 4 = .ok (.invokestatic 101, 3) := by decide +kernel
theorem dX10_take_7 : decode cX10_take 7 = .ok (.ifCond .ne 5, 3) := by decide +kernel
theorem dX10_take_10 : decode cX10_take 10 = .ok (.iconst (-1), 1) := by decide +kernel
theorem dX10_take_11 : decode cX10_take 11 = .ok (.ireturn, 1) := by decide +kernel
theorem dX10_take_12 : decode cX10_take 12 = .ok (.aload_n 0, 1) := by decide +kernel
theorem dX10_take_13 : decode cX10_take 13 = .ok (.invokevirtual 139, 3) := by decide +kernel
theorem dX10_take_16 : decode cX10_take 16 = .ok (.aload_n 0, 1) := by decide +kernel
theorem dX10_take_17 : decode cX10_take 17 = .ok (.getfield 7, 3) := by decide +kernel
theorem dX10_take_20 : decode cX10_take 20 = .ok (.sipush 154, 3) := by decide +kernel
theorem dX10_take_23 : decode cX10_take 23 = .ok (.iload_n 1, 1) := by decide +kernel
theorem dX10_take_24 : decode cX10_take 24 = .ok (.iadd, 1) := by decide +kernel
theorem dX10_take_25 : decode cX10_take 25 = .ok (.iconst 1, 1) := by decide +kernel
theorem dX10_take_26 : decode cX10_take 26 = .ok (.iastore, 1) := by decide +kernel
theorem dX10_take_27 : decode cX10_take 27 = .ok (.iconst 0, 1) := by decide +kernel
theorem dX10_take_28 : decode cX10_take 28 = .ok (.istore_n 2, 1) := by decide +kernel
theorem dX10_take_29 : decode cX10_take 29 = .ok (.iload_n 2, 1) := by decide +kernel
theorem dX10_take_30 : decode cX10_take 30 = .ok (.sipush 154, 3) := by decide +kernel
theorem dX10_take_33 : decode cX10_take 33 = .ok (.if_icmp .ge 31, 3) := by decide +kernel
theorem dX10_take_36 : decode cX10_take 36 = .ok (.aload_n 0, 1) := by decide +kernel
theorem dX10_take_37 : decode cX10_take 37 = .ok (.getfield 7, 3) := by decide +kernel
theorem dX10_take_40 : decode cX10_take 40 = .ok (.sipush 156, 3) := by decide +kernel
theorem dX10_take_43 : decode cX10_take 43 = .ok (.sipush 154, 3) := by decide +kernel
theorem dX10_take_46 : decode cX10_take 46 = .ok (.iload_n 1, 1) := by decide +kernel
theorem dX10_take_47 : decode cX10_take 47 = .ok (.imul, 1) := by decide +kernel
theorem dX10_take_48 : decode cX10_take 48 = .ok (.iadd, 1) := by decide +kernel
theorem dX10_take_49 : decode cX10_take 49 = .ok (.iload_n 2, 1) := by decide +kernel
theorem dX10_take_50 : decode cX10_take 50 = .ok (.iadd, 1) := by decide +kernel
theorem dX10_take_51 : decode cX10_take 51 = .ok (.aload_n 0, 1) := by decide +kernel
theorem dX10_take_52 : decode cX10_take 52 = .ok (.getfield 7, 3) := by decide +kernel
theorem dX10_take_55 : decode cX10_take 55 = .ok (.iload_n 2, 1) := by decide +kernel
theorem dX10_take_56 : decode cX10_take 56 = .ok (.iaload, 1) := by decide +kernel
theorem dX10_take_57 : decode cX10_take 57 = .ok (.iastore, 1) := by decide +kernel
theorem dX10_take_58 : decode cX10_take 58 = .ok (.iinc 2 1, 3) := by decide +kernel
theorem dX10_take_61 : decode cX10_take 61 = .ok (.goto (-32), 3) := by decide +kernel
theorem dX10_take_64 : decode cX10_take 64 = .ok (.aload_n 0, 1) := by decide +kernel
theorem dX10_take_65 : decode cX10_take 65 = .ok (.getfield 7, 3) := by decide +kernel
theorem dX10_take_68 : decode cX10_take 68 = .ok (.iconst 2, 1) := by decide +kernel
theorem dX10_take_69 : decode cX10_take 69 = .ok (.iaload, 1) := by decide +kernel
theorem dX10_take_70 : decode cX10_take 70 = .ok (.ireturn, 1) := by decide +kernel
theorem dX10_restore_0 : decode cX10_restore 0 = .ok (.iload_n 1, 1) := by decide +kernel
theorem dX10_restore_1 : decode cX10_restore 1 = .ok (.i2l, 1) := by decide +kernel
theorem dX10_restore_2 : decode cX10_restore 2 = .ok (.lconst 0, 1) := by decide +kernel
theorem dX10_restore_3 : decode cX10_restore 3 = .ok (.lconst 1, 1) := by decide +kernel
theorem dX10_restore_4 : decode cX10_restore 4 = .ok (.invokestatic 101, 3) := by decide +kernel
theorem dX10_restore_7 : decode cX10_restore 7 = .ok (.ifCond .ne 5, 3) := by decide +kernel
theorem dX10_restore_10 : decode cX10_restore 10 = .ok (.iconst (-1), 1) := by decide +kernel
theorem dX10_restore_11 : decode cX10_restore 11 = .ok (.ireturn, 1) := by decide +kernel
theorem dX10_restore_12 : decode cX10_restore 12 = .ok (.aload_n 0, 1) := by decide +kernel
theorem dX10_restore_13 : decode cX10_restore 13 = .ok (.getfield 7, 3) := by decide +kernel
theorem dX10_restore_16 : decode cX10_restore 16 = .ok (.sipush 154, 3) := by decide +kernel
theorem dX10_restore_19 : decode cX10_restore 19 = .ok (.iload_n 1, 1) := by decide +kernel
theorem dX10_restore_20 : decode cX10_restore 20 = .ok (.iadd, 1) := by decide +kernel
theorem dX10_restore_21 : decode cX10_restore 21 = .ok (.iaload, 1) := by decide +kernel
theorem dX10_restore_22 : decode cX10_restore 22 = .ok (.ifCond .ne 6, 3) := by decide +kernel
theorem dX10_restore_25 : decode cX10_restore 25 = .ok (.bipush (-2), 2) := by decide +kernel
theorem dX10_restore_27 : decode cX10_restore 27 = .ok (.ireturn, 1) := by decide +kernel
theorem dX10_restore_28 : decode cX10_restore 28 = .ok (.aload_n 0, 1) := by decide +kernel
theorem dX10_restore_29 : decode cX10_restore 29 = .ok (.invokevirtual 139, 3) := by decide +kernel
theorem dX10_restore_32 : decode cX10_restore 32 = .ok (.iconst 0, 1) := by decide +kernel
theorem dX10_restore_33 : decode cX10_restore 33 = .ok (.istore_n 2, 1) := by decide +kernel
theorem dX10_restore_34 : decode cX10_restore 34 = .ok (.iload_n 2, 1) := by decide +kernel
theorem dX10_restore_35 : decode cX10_restore 35 = .ok (.sipush 154, 3) := by decide +kernel
theorem dX10_restore_38 : decode cX10_restore 38 = .ok (.if_icmp .ge 31, 3) := by decide +kernel
theorem dX10_restore_41 : decode cX10_restore 41 = .ok (.aload_n 0, 1) := by decide +kernel
theorem dX10_restore_42 : decode cX10_restore 42 = .ok (.getfield 7, 3) := by decide +kernel
theorem dX10_restore_45 : decode cX10_restore 45 = .ok (.iload_n 2, 1) := by decide +kernel
theorem dX10_restore_46 : decode cX10_restore 46 = .ok (.aload_n 0, 1) := by decide +kernel
theorem dX10_restore_47 : decode cX10_restore 47 = .ok (.getfield 7, 3) := by decide +kernel
theorem dX10_restore_50 : decode cX10_restore 50 = .ok (.sipush 156, 3) := by decide +kernel
theorem dX10_restore_53 : decode cX10_restore 53 = .ok (.sipush 154, 3) := by decide +kernel
theorem dX10_restore_56 : decode cX10_restore 56 = .ok (.iload_n 1, 1) := by decide +kernel
theorem dX10_restore_57 : decode cX10_restore 57 = .ok (.imul, 1) := by decide +kernel
theorem dX10_restore_58 : decode cX10_restore 58 = .ok (.iadd, 1) := by decide +kernel
theorem dX10_restore_59 : decode cX10_restore 59 = .ok (.iload_n 2, 1) := by decide +kernel
theorem dX10_restore_60 : decode cX10_restore 60 = .ok (.iadd, 1) := by decide +kernel
theorem dX10_restore_61 : decode cX10_restore 61 = .ok (.iaload, 1) := by decide +kernel
theorem dX10_restore_62 : decode cX10_restore 62 = .ok (.iastore, 1) := by decide +kernel
theorem dX10_restore_63 : decode cX10_restore 63 = .ok (.iinc 2 1, 3) := by decide +kernel
theorem dX10_restore_66 : decode cX10_restore 66 = .ok (.goto (-32), 3) := by decide +kernel
theorem dX10_restore_69 : decode cX10_restore 69 = .ok (.aload_n 0, 1) := by decide +kernel
theorem dX10_restore_70 : decode cX10_restore 70 = .ok (.getfield 7, 3) := by decide +kernel
theorem dX10_restore_73 : decode cX10_restore 73 = .ok (.iconst 2, 1) := by decide +kernel
theorem dX10_restore_74 : decode cX10_restore 74 = .ok (.iaload, 1) := by decide +kernel
theorem dX10_restore_75 : decode cX10_restore 75 = .ok (.ireturn, 1) := by decide +kernel
theorem dX10_undo_0 : decode cX10_undo 0 = .ok (.aload_n 0, 1) := by decide +kernel
theorem dX10_undo_1 : decode cX10_undo 1 = .ok (.getfield 61, 3) := by decide +kernel
theorem dX10_undo_4 : decode cX10_undo 4 = .ok (.ifCond .ne 6, 3) := by decide +kernel
theorem dX10_undo_7 : decode cX10_undo 7 = .ok (.bipush (-2), 2) := by decide +kernel
theorem dX10_undo_9 : decode cX10_undo 9 = .ok (.ireturn, 1) := by decide +kernel
theorem dX10_undo_10 : decode cX10_undo 10 = .ok (.aload_n 0, 1) := by decide +kernel
theorem dX10_undo_11 : decode cX10_undo 11 = .ok (.dup, 1) := by decide +kernel
theorem dX10_undo_12 : decode cX10_undo 12 = .ok (.getfield 61, 3) := by decide +kernel
theorem dX10_undo_15 : decode cX10_undo 15 = .ok (.iconst 1, 1) := by decide +kernel
theorem dX10_undo_16 : decode cX10_undo 16 = .ok (.isub, 1) := by decide +kernel
theorem dX10_undo_17 : decode cX10_undo 17 = .ok (.putfield 61, 3) := by decide +kernel
theorem dX10_undo_20 : decode cX10_undo 20 = .ok (.iconst 0, 1) := by decide +kernel
theorem dX10_undo_21 : decode cX10_undo 21 = .ok (.istore_n 1, 1) := by decide +kernel
theorem dX10_undo_22 : decode cX10_undo 22 = .ok (.iload_n 1, 1) := by decide +kernel
theorem dX10_undo_23 : decode cX10_undo 23 = .ok (.sipush 464, 3) := by decide +kernel
theorem dX10_undo_26 : decode cX10_undo 26 = .ok (.if_icmp .ge 30, 3) := by decide +kernel
theorem dX10_undo_29 : decode cX10_undo 29 = .ok (.aload_n 0, 1) := by decide +kernel
theorem dX10_undo_30 : decode cX10_undo 30 = .ok (.getfield 7, 3) := by decide +kernel
theorem dX10_undo_33 : decode cX10_undo 33 = .ok (.iload_n 1, 1) := by decide +kernel
theorem dX10_undo_34 : decode cX10_undo 34 = .ok (.aload_n 0, 1) := by decide +kernel
theorem dX10_undo_35 : decode cX10_undo 35 = .ok (.getfield 13, 3) := by decide +kernel
theorem dX10_undo_38 : decode cX10_undo 38 = .ok (.sipush 464, 3) := by decide +kernel
theorem dX10_undo_41 : decode cX10_undo 41 = .ok (.aload_n 0, 1) := by decide +kernel
theorem dX10_undo_42 : decode cX10_undo 42 = .ok (.getfield 61, 3) := by decide +kernel
theorem dX10_undo_45 : decode cX10_undo 45 = .ok (.imul, 1) := by decide +kernel
theorem dX10_undo_46 : decode cX10_undo 46 = .ok (.iload_n 1, 1) := by decide +kernel
theorem dX10_undo_47 : decode cX10_undo 47 = .ok (.iadd, 1) := by decide +kernel
theorem dX10_undo_48 : decode cX10_undo 48 = .ok (.iaload, 1) := by decide +kernel
theorem dX10_undo_49 : decode cX10_undo 49 = .ok (.iastore, 1) := by decide +kernel
theorem dX10_undo_50 : decode cX10_undo 50 = .ok (.iinc 1 1, 3) := by decide +kernel
theorem dX10_undo_53 : decode cX10_undo 53 = .ok (.goto (-31), 3) := by decide +kernel
theorem dX10_undo_56 : decode cX10_undo 56 = .ok (.aload_n 0, 1) := by decide +kernel
theorem dX10_undo_57 : decode cX10_undo 57 = .ok (.getfield 61, 3) := by decide +kernel
theorem dX10_undo_60 : decode cX10_undo 60 = .ok (.ireturn, 1) := by decide +kernel
theorem dX10_append_0 : decode cX10_append 0 = .ok (.iload_n 1, 1) := by decide +kernel
theorem dX10_append_1 : decode cX10_append 1 = .ok (.i2l, 1) := by decide +kernel
theorem dX10_append_2 : decode cX10_append 2 = .ok (.lconst 1, 1) := by decide +kernel
theorem dX10_append_3 : decode cX10_append 3 = .ok (.ldc2_w 179, 3) := by decide +kernel
theorem dX10_append_6 : decode cX10_append 6 = .ok (.invokestatic 101, 3) := by decide +kernel
theorem dX10_append_9 : decode cX10_append 9 = .ok (.ifCond .ne 5, 3) := by decide +kernel
theorem dX10_append_12 : decode cX10_append 12 = .ok (.iconst (-1), 1) := by decide +kernel
theorem dX10_append_13 : decode cX10_append 13 = .ok (.ireturn, 1) := by decide +kernel
theorem dX10_append_14 : decode cX10_append 14 = .ok (.aload_n 0, 1) := by decide +kernel
theorem dX10_append_15 : decode cX10_append 15 = .ok (.getfield 181, 3) := by decide +kernel
theorem dX10_append_18 : decode cX10_append 18 = .ok (.bipush 120, 2) := by decide +kernel
theorem dX10_append_20 : decode cX10_append 20 = .ok (.if_icmp .ne 6, 3) := by decide +kernel
theorem dX10_append_23 : decode cX10_append 23 = .ok (.bipush (-3), 2) := by decide +kernel
theorem dX10_append_25 : decode cX10_append 25 = .ok (.ireturn, 1) := by decide +kernel
theorem dX10_append_26 : decode cX10_append 26 = .ok (.aload_n 0, 1) := by decide +kernel
theorem dX10_append_27 : decode cX10_append 27 = .ok (.getfield 19, 3) := by decide +kernel
theorem dX10_append_30 : decode cX10_append 30 = .ok (.aload_n 0, 1) := by decide +kernel
theorem dX10_append_31 : decode cX10_append 31 = .ok (.getfield 181, 3) := by decide +kernel
theorem dX10_append_34 : decode cX10_append 34 = .ok (.iload_n 1, 1) := by decide +kernel
theorem dX10_append_35 : decode cX10_append 35 = .ok (.iastore, 1) := by decide +kernel
theorem dX10_append_36 : decode cX10_append 36 = .ok (.aload_n 0, 1) := by decide +kernel
theorem dX10_append_37 : decode cX10_append 37 = .ok (.dup, 1) := by decide +kernel
theorem dX10_append_38 : decode cX10_append 38 = .ok (.getfield 181, 3) := by decide +kernel
theorem dX10_append_41 : decode cX10_append 41 = .ok (.iconst 1, 1) := by decide +kernel
theorem dX10_append_42 : decode cX10_append 42 = .ok (.iadd, 1) := by decide +kernel
theorem dX10_append_43 : decode cX10_append 43 = .ok (.putfield 181, 3) := by decide +kernel
theorem dX10_append_46 : decode cX10_append 46 = .ok (.aload_n 0, 1) := by decide +kernel
theorem dX10_append_47 : decode cX10_append 47 = .ok (.getfield 181, 3) := by decide +kernel
theorem dX10_append_50 : decode cX10_append 50 = .ok (.ireturn, 1) := by decide +kernel
theorem dX10_clearText_0 : decode cX10_clearText 0 = .ok (.aload_n 0, 1) := by decide +kernel
theorem dX10_clearText_1 : decode cX10_clearText 1 = .ok (.getfield 181, 3) := by decide +kernel
theorem dX10_clearText_4 : decode cX10_clearText 4 = .ok (.istore_n 1, 1) := by decide +kernel
theorem dX10_clearText_5 : decode cX10_clearText 5 = .ok (.aload_n 0, 1) := by decide +kernel
theorem dX10_clearText_6 : decode cX10_clearText 6 = .ok (.iconst 0, 1) := by decide +kernel
theorem dX10_clearText_7 : decode cX10_clearText 7 = .ok (.putfield 181, 3) := by decide +kernel
theorem dX10_clearText_10 : decode cX10_clearText 10 = .ok (.iload_n 1, 1) := by decide +kernel
theorem dX10_clearText_11 : decode cX10_clearText 11 = .ok (.ireturn, 1) := by decide +kernel
theorem dX10_isLetter_0 : decode cX10_isLetter 0 = .ok (.iload_n 0, 1) := by decide +kernel
theorem dX10_isLetter_1 : decode cX10_isLetter 1 = .ok (.i2l, 1) := by decide +kernel
theorem dX10_isLetter_2 : decode cX10_isLetter 2 = .ok (.ldc2_w 184, 3) := by decide +kernel
theorem dX10_isLetter_5 : decode cX10_isLetter 5 = .ok (.ldc2_w 186, 3) := by decide +kernel
theorem dX10_isLetter_8 : decode cX10_isLetter 8 = .ok (.invokestatic 101, 3) := by decide +kernel
theorem dX10_isLetter_11 : decode cX10_isLetter 11 = .ok (.ireturn, 1) := by decide +kernel
theorem dX10_isFigure_0 : decode cX10_isFigure 0 = .ok (.iload_n 0, 1) := by decide +kernel
theorem dX10_isFigure_1 : decode cX10_isFigure 1 = .ok (.i2l, 1) := by decide +kernel
theorem dX10_isFigure_2 : decode cX10_isFigure 2 = .ok (.ldc2_w 188, 3) := by decide +kernel
theorem dX10_isFigure_5 : decode cX10_isFigure 5 = .ok (.ldc2_w 190, 3) := by decide +kernel
theorem dX10_isFigure_8 : decode cX10_isFigure 8 = .ok (.invokestatic 101, 3) := by decide +kernel
theorem dX10_isFigure_11 : decode cX10_isFigure 11 = .ok (.ireturn, 1) := by decide +kernel
theorem dX10_readWord_0 : decode cX10_readWord 0 = .ok (.aload_n 0, 1) := by decide +kernel
theorem dX10_readWord_1 : decode cX10_readWord 1 = .ok (.lconst 0, 1) := by decide +kernel
theorem dX10_readWord_2 : decode cX10_readWord 2 = .ok (.putfield 192, 3) := by decide +kernel
theorem dX10_readWord_5 : decode cX10_readWord 5 = .ok (.iconst 0, 1) := by decide +kernel
theorem dX10_readWord_6 : decode cX10_readWord 6 = .ok (.istore_n 1, 1) := by decide +kernel
theorem dX10_readWord_7 : decode cX10_readWord 7 = .ok (.aload_n 0, 1) := by decide +kernel
theorem dX10_readWord_8 : decode cX10_readWord 8 = .ok (.getfield 196, 3) := by decide +kernel
theorem dX10_readWord_11 : decode cX10_readWord 11 = .ok (.aload_n 0, 1) := by decide +kernel
theorem dX10_readWord_12 : decode cX10_readWord 12 = .ok (.getfield 181, 3) := by decide +kernel
theorem dX10_readWord_15 : decode cX10_readWord 15 = .ok (.if_icmp .ge 71, 3) := by decide +kernel
theorem dX10_readWord_18 : decode cX10_readWord 18 = .ok (.aload_n 0, 1) := by decide +kernel
theorem dX10_readWord_19 : decode cX10_readWord 19 = .ok (.getfield 19, 3) := by decide +kernel
theorem dX10_readWord_22 : decode cX10_readWord 22 = .ok (.aload_n 0, 1) := by decide +kernel
theorem dX10_readWord_23 : decode cX10_readWord 23 = .ok (.getfield 196, 3) := by decide +kernel
theorem dX10_readWord_26 : decode cX10_readWord 26 = .ok (.iaload, 1) := by decide +kernel
theorem dX10_readWord_27 : decode cX10_readWord 27 = .ok (.invokestatic 199, 3) := by decide +kernel
theorem dX10_readWord_30 : decode cX10_readWord 30 = .ok (.ifCond .eq 56, 3) := by decide +kernel
theorem dX10_readWord_33 : decode cX10_readWord 33 = .ok (.aload_n 0, 1) := by decide +kernel
theorem dX10_readWord_34 : decode cX10_readWord 34 = .ok (.iload_n 1, 1) := by decide +kernel
theorem dX10_readWord_35 : decode cX10_readWord 35 = .ok (.bipush 11, 2) := by decide +kernel
theorem dX10_readWord_37 : decode cX10_readWord 37 = .ok (.if_icmp .ge 29, 3) := by decide +kernel
theorem dX10_readWord_40 : decode cX10_readWord 40 = .ok (.ldc2_w 202, 3) := by decide +kernel
theorem dX10_readWord_43 : decode cX10_readWord 43 = .ok (.aload_n 0, 1) := by decide +kernel
theorem dX10_readWord_44 : decode cX10_readWord 44 = .ok (.getfield 192, 3) := by decide +kernel
theorem dX10_readWord_47 : decode cX10_readWord 47 = .ok (.lmul, 1) := by decide +kernel
theorem dX10_readWord_48 : decode cX10_readWord 48 = .ok (.aload_n 0, 1) := by decide +kernel
theorem dX10_readWord_49 : decode cX10_readWord 49 = .ok (.getfield 19, 3) := by decide +kernel
theorem dX10_readWord_52 : decode cX10_readWord 52 = .ok (.aload_n 0, 1) := by decide +kernel
theorem dX10_readWord_53 : decode cX10_readWord 53 = .ok (.getfield 196, 3) := by decide +kernel
theorem dX10_readWord_56 : decode cX10_readWord 56 = .ok (.iaload, 1) := by decide +kernel
theorem dX10_readWord_57 : decode cX10_readWord 57 = .ok (.i2l, 1) := by decide +kernel
theorem dX10_readWord_58 : decode cX10_readWord 58 = .ok (.ladd, 1) := by decide +kernel
theorem dX10_readWord_59 : decode cX10_readWord 59 = .ok (.ldc2_w 204, 3) := by decide +kernel
theorem dX10_readWord_62 : decode cX10_readWord 62 = .ok (.lsub, 1) := by decide +kernel
theorem dX10_readWord_63 : decode cX10_readWord 63 = .ok (.goto 4, 3) := by decide +kernel
theorem dX10_readWord_66 : decode cX10_readWord 66 = .ok (.lconst 0, 1) := by decide +kernel
theorem dX10_readWord_67 : decode cX10_readWord 67 = .ok (.putfield 192, 3) := by decide +kernel
theorem dX10_readWord_70 : decode cX10_readWord 70 = .ok (.aload_n 0, 1) := by decide +kernel
theorem dX10_readWord_71 : decode cX10_readWord 71 = .ok (.dup, 1) := by decide +kernel
theorem dX10_readWord_72 : decode cX10_readWord 72 = .ok (.getfield 196, 3) := by decide +kernel
theorem dX10_readWord_75 : decode cX10_readWord 75 = .ok (.iconst 1, 1) := by decide +kernel
theorem dX10_readWord_76 : decode cX10_readWord 76 = .ok (.iadd, 1) := by decide +kernel
theorem dX10_readWord_77 : decode cX10_readWord 77 = .ok (.putfield 196, 3) := by decide +kernel
theorem dX10_readWord_80 : decode cX10_readWord 80 = .ok (.iinc 1 1, 3) := by decide +kernel
theorem dX10_readWord_83 : decode cX10_readWord 83 = .ok (.goto (-76), 3) := by decide +kernel
theorem dX10_readWord_86 : decode cX10_readWord 86 = .ok (.aload_n 0, 1) := by decide +kernel
theorem dX10_readWord_87 : decode cX10_readWord 87 = .ok (.iconst 1, 1) := by decide +kernel
theorem dX10_readWord_88 : decode cX10_readWord 88 = .ok (.putfield 206, 3) := by decide +kernel
theorem dX10_readWord_91 : decode cX10_readWord 91 = .ok (.return_, 1) := by decide +kernel
theorem dX10_readNumber_0 : decode cX10_readNumber 0 = .ok (.iconst 0, 1) := by decide +kernel
theorem dX10_readNumber_1 : decode cX10_readNumber 1 = .ok (.istore_n 1, 1) := by decide +kernel
theorem dX10_readNumber_2 : decode cX10_readNumber 2 = .ok (.aload_n 0, 1) := by decide +kernel
theorem dX10_readNumber_3 : decode cX10_readNumber 3 = .ok (.iconst 0, 1) := by decide +kernel
theorem dX10_readNumber_4 : decode cX10_readNumber 4 = .ok (.putfield 209, 3) := by decide +kernel
theorem dX10_readNumber_7 : decode cX10_readNumber 7 = .ok (.aload_n 0, 1) := by decide +kernel
theorem dX10_readNumber_8 : decode cX10_readNumber 8 = .ok (.getfield 196, 3) := by decide +kernel
theorem dX10_readNumber_11 : decode cX10_readNumber 11 = .ok (.aload_n 0, 1) := by decide +kernel
theorem dX10_readNumber_12 : decode cX10_readNumber 12 = .ok (.getfield 181, 3) := by decide +kernel
theorem dX10_readNumber_15 : decode cX10_readNumber 15 = .ok (.if_icmp .ge 70, 3) := by decide +kernel
theorem dX10_readNumber_18 : decode cX10_readNumber 18 = .ok (.aload_n 0, 1) := by decide +kernel
theorem dX10_readNumber_19 : decode cX10_readNumber 19 = .ok (.getfield 19, 3) := by decide +kernel
theorem dX10_readNumber_22 : decode cX10_readNumber 22 = .ok (.aload_n 0, 1) := by decide +kernel
theorem dX10_readNumber_23 : decode cX10_readNumber 23 = .ok (.getfield 196, 3) := by decide +kernel
theorem dX10_readNumber_26 : decode cX10_readNumber 26 = .ok (.iaload, 1) := by decide +kernel
theorem dX10_readNumber_27 : decode cX10_readNumber 27 = .ok (.invokestatic 212, 3) := by decide +kernel
theorem dX10_readNumber_30 : decode cX10_readNumber 30 = .ok (.ifCond .eq 55, 3) := by decide +kernel
theorem dX10_readNumber_33 : decode cX10_readNumber 33 = .ok (.aload_n 0, 1) := by decide +kernel
theorem dX10_readNumber_34 : decode cX10_readNumber 34 = .ok (.iload_n 1, 1) := by decide +kernel
theorem dX10_readNumber_35 : decode cX10_readNumber 35 = .ok (.iconst 4, 1) := by decide +kernel
theorem dX10_readNumber_36 : decode cX10_readNumber 36 = .ok (.if_icmp .ge 26, 3) := by decide +kernel
theorem dX10_readNumber_39 : decode cX10_readNumber 39 = .ok (.bipush 10, 2) := by decide +kernel
theorem dX10_readNumber_41 : decode cX10_readNumber 41 = .ok (.aload_n 0, 1) := by decide +kernel
theorem dX10_readNumber_42 : decode cX10_readNumber 42 = .ok (.getfield 209, 3) := by decide +kernel
theorem dX10_readNumber_45 : decode cX10_readNumber 45 = .ok (.imul, 1) := by decide +kernel
theorem dX10_readNumber_46 : decode cX10_readNumber 46 = .ok (.aload_n 0, 1) := by decide +kernel
theorem dX10_readNumber_47 : decode cX10_readNumber 47 = .ok (.getfield 19, 3) := by decide +kernel
theorem dX10_readNumber_50 : decode cX10_readNumber 50 = .ok (.aload_n 0, 1) := by decide +kernel
theorem dX10_readNumber_51 : decode cX10_readNumber 51 = .ok (.getfield 196, 3) := by decide +kernel
theorem dX10_readNumber_54 : decode cX10_readNumber 54 = .ok (.iaload, 1) := by decide +kernel
theorem dX10_readNumber_55 : decode cX10_readNumber 55 = .ok (.iadd, 1) := by decide +kernel
theorem dX10_readNumber_56 : decode cX10_readNumber 56 = .ok (.bipush 48, 2) := by decide +kernel
theorem dX10_readNumber_58 : decode cX10_readNumber 58 = .ok (.isub, 1) := by decide +kernel
theorem dX10_readNumber_59 : decode cX10_readNumber 59 = .ok (.goto 7, 3) := by decide +kernel
theorem dX10_readNumber_62 : decode cX10_readNumber 62 = .ok (.aload_n 0, 1) := by decide +kernel
theorem dX10_readNumber_63 : decode cX10_readNumber 63 = .ok (.getfield 209, 3) := by decide +kernel
theorem dX10_readNumber_66 : decode cX10_readNumber 66 = .ok (.putfield 209, 3) := by decide +kernel
theorem dX10_readNumber_69 : decode cX10_readNumber 69 = .ok (.iinc 1 1, 3) := by decide +kernel
theorem dX10_readNumber_72 : decode cX10_readNumber 72 = .ok (.aload_n 0, 1) := by decide +kernel
theorem dX10_readNumber_73 : decode cX10_readNumber 73 = .ok (.dup, 1) := by decide +kernel
theorem dX10_readNumber_74 : decode cX10_readNumber 74 = .ok (.getfield 196, 3) := by decide +kernel
theorem dX10_readNumber_77 : decode cX10_readNumber 77 = .ok (.iconst 1, 1) := by decide +kernel
theorem dX10_readNumber_78 : decode cX10_readNumber 78 = .ok (.iadd, 1) := by decide +kernel
theorem dX10_readNumber_79 : decode cX10_readNumber 79 = .ok (.putfield 196, 3) := by decide +kernel
theorem dX10_readNumber_82 : decode cX10_readNumber 82 = .ok (.goto (-75), 3) := by decide +kernel
theorem dX10_readNumber_85 : decode cX10_readNumber 85 = .ok (.iload_n 1, 1) := by decide +kernel
theorem dX10_readNumber_86 : decode cX10_readNumber 86 = .ok (.iconst 5, 1) := by decide +kernel
theorem dX10_readNumber_87 : decode cX10_readNumber 87 = .ok (.if_icmp .ge 26, 3) := by decide +kernel
theorem dX10_readNumber_90 : decode cX10_readNumber 90 = .ok (.iload_n 1, 1) := by decide +kernel
theorem dX10_readNumber_91 : decode cX10_readNumber 91 = .ok (.iconst 1, 1) := by decide +kernel
theorem dX10_readNumber_92 : decode cX10_readNumber 92 = .ok (.if_icmp .eq 17, 3) := by decide +kernel
theorem dX10_readNumber_95 : decode cX10_readNumber 95 = .ok (.aload_n 0, 1) := by decide +kernel
theorem dX10_readNumber_96 : decode cX10_readNumber 96 = .ok (.getfield 19, 3) := by decide +kernel
theorem dX10_readNumber_99 : decode cX10_readNumber 99 = .ok (.aload_n 0, 1) := by decide +kernel
theorem dX10_readNumber_100 : decode cX10_readNumber 100 = .ok (.getfield 215, 3) := by decide +kernel
theorem dX10_readNumber_103 : decode cX10_readNumber 103 = .ok (.iaload, 1) := by decide +kernel
theorem dX10_readNumber_104 : decode cX10_readNumber 104 = .ok (.bipush 48, 2) := by decide +kernel
theorem dX10_readNumber_106 : decode cX10_readNumber 106 = .ok (.if_icmp .eq 7, 3) := by decide +kernel
theorem dX10_readNumber_109 : decode cX10_readNumber 109 = .ok (.iconst 1, 1) := by decide +kernel
theorem dX10_readNumber_110 : decode cX10_readNumber 110 = .ok (.goto 4, 3) := by decide +kernel
theorem dX10_readNumber_113 : decode cX10_readNumber 113 = .ok (.iconst 0, 1) := by decide +kernel
theorem dX10_readNumber_114 : decode cX10_readNumber 114 = .ok (.istore_n 2, 1) := by decide +kernel
theorem dX10_readNumber_115 : decode cX10_readNumber 115 = .ok (.aload_n 0, 1) := by decide +kernel
theorem dX10_readNumber_116 : decode cX10_readNumber 116 = .ok (.iload_n 2, 1) := by decide +kernel
theorem dX10_readNumber_117 : decode cX10_readNumber 117 = .ok (.ifCond .eq 7, 3) := by decide +kernel
theorem dX10_readNumber_120 : decode cX10_readNumber 120 = .ok (.iconst 2, 1) := by decide +kernel
theorem dX10_readNumber_121 : decode cX10_readNumber 121 = .ok (.goto 4, 3) := by decide +kernel
theorem dX10_readNumber_124 : decode cX10_readNumber 124 = .ok (.iconst 4, 1) := by decide +kernel
theorem dX10_readNumber_125 : decode cX10_readNumber 125 = .ok (.putfield 206, 3) := by decide +kernel
theorem dX10_readNumber_128 : decode cX10_readNumber 128 = .ok (.return_, 1) := by decide +kernel
theorem dX10_next_0 : decode cX10_next 0 = .ok (.aload_n 0, 1) := by decide +kernel
theorem dX10_next_1 : decode cX10_next 1 = .ok (.getfield 196, 3) := by decide +kernel
theorem dX10_next_4 : decode cX10_next 4 = .ok (.aload_n 0, 1) := by decide +kernel
theorem dX10_next_5 : decode cX10_next 5 = .ok (.getfield 181, 3) := by decide +kernel
theorem dX10_next_8 : decode cX10_next 8 = .ok (.if_icmp .ge 30, 3) := by decide +kernel
theorem dX10_next_11 : decode cX10_next 11 = .ok (.aload_n 0, 1) := by decide +kernel
theorem dX10_next_12 : decode cX10_next 12 = .ok (.getfield 19, 3) := by decide +kernel
theorem dX10_next_15 : decode cX10_next 15 = .ok (.aload_n 0, 1) := by decide +kernel
theorem dX10_next_16 : decode cX10_next 16 = .ok (.getfield 196, 3) := by decide +kernel
theorem dX10_next_19 : decode cX10_next 19 = .ok (.iaload, 1) := by decide +kernel
theorem dX10_next_20 : decode cX10_next 20 = .ok (.bipush 32, 2) := by decide +kernel
theorem dX10_next_22 : decode cX10_next 22 = .ok (.if_icmp .ne 16, 3) := by decide +kernel
theorem dX10_next_25 : decode cX10_next 25 = .ok (.aload_n 0, 1) := by decide +kernel
theorem dX10_next_26 : decode cX10_next 26 = .ok (.dup, 1) := by decide +kernel
theorem dX10_next_27 : decode cX10_next 27 = .ok (.getfield 196, 3) := by decide +kernel
theorem dX10_next_30 : decode cX10_next 30 = .ok (.iconst 1, 1) := by decide +kernel
theorem dX10_next_31 : decode cX10_next 31 = .ok (.iadd, 1) := by decide +kernel
theorem dX10_next_32 : decode cX10_next 32 = .ok (.putfield 196, 3) := by decide +kernel
theorem dX10_next_35 : decode cX10_next 35 = .ok (.goto (-35), 3) := by decide +kernel
theorem dX10_next_38 : decode cX10_next 38 = .ok (.aload_n 0, 1) := by decide +kernel
theorem dX10_next_39 : decode cX10_next 39 = .ok (.aload_n 0, 1) := by decide +kernel
theorem dX10_next_40 : decode cX10_next 40 = .ok (.getfield 196, 3) := by decide +kernel
theorem dX10_next_43 : decode cX10_next 43 = .ok (.putfield 215, 3) := by decide +kernel
theorem dX10_next_46 : decode cX10_next 46 = .ok (.aload_n 0, 1) := by decide +kernel
theorem dX10_next_47 : decode cX10_next 47 = .ok (.lconst 0, 1) := by decide +kernel
theorem dX10_next_48 : decode cX10_next 48 = .ok (.putfield 192, 3) := by decide +kernel
theorem dX10_next_51 : decode cX10_next 51 = .ok (.aload_n 0, 1) := by decide +kernel
theorem dX10_next_52 : decode cX10_next 52 = .ok (.getfield 196, 3) := by decide +kernel
theorem dX10_next_55 : decode cX10_next 55 = .ok (.aload_n 0, 1) := by decide +kernel
theorem dX10_next_56 : decode cX10_next 56 = .ok (.getfield 181, 3) := by decide +kernel
theorem dX10_next_59 : decode cX10_next 59 = .ok (.if_icmp .ne 11, 3) := by decide +kernel
theorem dX10_next_62 : decode cX10_next 62 = .ok (.aload_n 0, 1) := by decide +kernel
theorem dX10_next_63 : decode cX10_next 63 = .ok (.iconst 0, 1) := by decide +kernel
theorem dX10_next_64 : decode cX10_next 64 = .ok (.putfield 206, 3) := by decide +kernel
theorem dX10_next_67 : decode cX10_next 67 = .ok (.goto 80, 3) := by decide +kernel
theorem dX10_next_70 : decode cX10_next 70 = .ok (.aload_n 0, 1) := by decide +kernel
theorem dX10_next_71 : decode cX10_next 71 = .ok (.getfield 19, 3) := by decide +kernel
theorem dX10_next_74 : decode cX10_next 74 = .ok (.aload_n 0, 1) := by decide +kernel
theorem dX10_next_75 : decode cX10_next 75 = .ok (.getfield 196, 3) := by decide +kernel
theorem dX10_next_78 : decode cX10_next 78 = .ok (.iaload, 1) := by decide +kernel
theorem dX10_next_79 : decode cX10_next 79 = .ok (.invokestatic 199, 3) := by decide +kernel
theorem dX10_next_82 : decode cX10_next 82 = .ok (.ifCond .eq 10, 3) := by decide +kernel
theorem dX10_next_85 : decode cX10_next 85 = .ok (.aload_n 0, 1) := by decide +kernel
theorem dX10_next_86 : decode cX10_next 86 = .ok (.invokevirtual 218, 3) := by decide +kernel
theorem dX10_next_89 : decode cX10_next 89 = .ok (.goto 58, 3) := by decide +kernel
theorem dX10_next_92 : decode cX10_next 92 = .ok (.aload_n 0, 1) := by decide +kernel
theorem dX10_next_93 : decode cX10_next 93 = .ok (.getfield 19, 3) := by decide +kernel
theorem dX10_next_96 : decode cX10_next 96 = .ok (.aload_n 0, 1) := by decide +kernel
theorem dX10_next_97 : decode cX10_next 97 = .ok (.getfield 196, 3) := by decide +kernel
theorem dX10_next_100 : decode cX10_next 100 = .ok (.iaload, 1) := by decide +kernel
theorem dX10_next_101 : decode cX10_next 101 = .ok (.invokestatic 212, 3) := by decide +kernel
theorem dX10_next_104 : decode cX10_next 104 = .ok (.ifCond .eq 10, 3) := by decide +kernel
theorem dX10_next_107 : decode cX10_next 107 = .ok (.aload_n 0, 1) := by decide +kernel
theorem dX10_next_108 : decode cX10_next 108 = .ok (.invokevirtual 221, 3) := by decide +kernel
theorem dX10_next_111 : decode cX10_next 111 = .ok (.goto 36, 3) := by decide +kernel
theorem dX10_next_114 : decode cX10_next 114 = .ok (.aload_n 0, 1) := by decide +kernel
theorem dX10_next_115 : decode cX10_next 115 = .ok (.aload_n 0, 1) := by decide +kernel
theorem dX10_next_116 : decode cX10_next 116 = .ok (.getfield 19, 3) := by decide +kernel
theorem dX10_next_119 : decode cX10_next 119 = .ok (.aload_n 0, 1) := by decide +kernel
theorem dX10_next_120 : decode cX10_next 120 = .ok (.getfield 196, 3) := by decide +kernel
theorem dX10_next_123 : decode cX10_next 123 = .ok (.iaload, 1) := by decide +kernel
theorem dX10_next_124 : decode cX10_next 124 = .ok (.bipush 59, 2) := by decide +kernel
theorem dX10_next_126 : decode cX10_next 126 = .ok (.if_icmp .ne 7, 3) := by decide +kernel
theorem dX10_next_129 : decode cX10_next 129 = .ok (.iconst 3, 1) := by decide +kernel
theorem dX10_next_130 : decode cX10_next 130 = .ok (.goto 4, 3) := by decide +kernel
theorem dX10_next_133 : decode cX10_next 133 = .ok (.iconst 4, 1) := by decide +kernel
theorem dX10_next_134 : decode cX10_next 134 = .ok (.putfield 206, 3) := by decide +kernel
theorem dX10_next_137 : decode cX10_next 137 = .ok (.aload_n 0, 1) := by decide +kernel
theorem dX10_next_138 : decode cX10_next 138 = .ok (.dup, 1) := by decide +kernel
theorem dX10_next_139 : decode cX10_next 139 = .ok (.getfield 196, 3) := by decide +kernel
theorem dX10_next_142 : decode cX10_next 142 = .ok (.iconst 1, 1) := by decide +kernel
theorem dX10_next_143 : decode cX10_next 143 = .ok (.iadd, 1) := by decide +kernel
theorem dX10_next_144 : decode cX10_next 144 = .ok (.putfield 196, 3) := by decide +kernel
theorem dX10_next_147 : decode cX10_next 147 = .ok (.return_, 1) := by decide +kernel
theorem dX10_numbers_0 : decode cX10_numbers 0 = .ok (.aload_n 0, 1) := by decide +kernel
theorem dX10_numbers_1 : decode cX10_numbers 1 = .ok (.iconst 0, 1) := by decide +kernel
theorem dX10_numbers_2 : decode cX10_numbers 2 = .ok (.putfield 224, 3) := by decide +kernel
theorem dX10_numbers_5 : decode cX10_numbers 5 = .ok (.aload_n 0, 1) := by decide +kernel
theorem dX10_numbers_6 : decode cX10_numbers 6 = .ok (.invokevirtual 227, 3) := by decide +kernel
theorem dX10_numbers_9 : decode cX10_numbers 9 = .ok (.aload_n 0, 1) := by decide +kernel
theorem dX10_numbers_10 : decode cX10_numbers 10 = .ok (.getfield 206, 3) := by decide +kernel
theorem dX10_numbers_13 : decode cX10_numbers 13 = .ok (.iconst 2, 1) := by decide +kernel
theorem dX10_numbers_14 : decode cX10_numbers 14 = .ok (.if_icmp .ne 41, 3) := by decide +kernel
theorem dX10_numbers_17 : decode cX10_numbers 17 = .ok (.aload_n 0, 1) := by decide +kernel
theorem dX10_numbers_18 : decode cX10_numbers 18 = .ok (.getfield 224, 3) := by decide +kernel
theorem dX10_numbers_21 : decode cX10_numbers 21 = .ok (.iload_n 2, 1) := by decide +kernel
theorem dX10_numbers_22 : decode cX10_numbers 22 = .ok (.if_icmp .ge 33, 3) := by decide +kernel
theorem dX10_numbers_25 : decode cX10_numbers 25 = .ok (.aload_n 0, 1) := by decide +kernel
theorem dX10_numbers_26 : decode cX10_numbers 26 = .ok (.getfield 46, 3) := by decide +kernel
theorem dX10_numbers_29 : decode cX10_numbers 29 = .ok (.aload_n 0, 1) := by decide +kernel
theorem dX10_numbers_30 : decode cX10_numbers 30 = .ok (.getfield 224, 3) := by decide +kernel
theorem dX10_numbers_33 : decode cX10_numbers 33 = .ok (.aload_n 0, 1) := by decide +kernel
theorem dX10_numbers_34 : decode cX10_numbers 34 = .ok (.getfield 209, 3) := by decide +kernel
theorem dX10_numbers_37 : decode cX10_numbers 37 = .ok (.iastore, 1) := by decide +kernel
theorem dX10_numbers_38 : decode cX10_numbers 38 = .ok (.aload_n 0, 1) := by decide +kernel
theorem dX10_numbers_39 : decode cX10_numbers 39 = .ok (.dup, 1) := by decide +kernel
theorem dX10_numbers_40 : decode cX10_numbers 40 = .ok (.getfield 224, 3) := by decide +kernel
theorem dX10_numbers_43 : decode cX10_numbers 43 = .ok (.iconst 1, 1) := by decide +kernel
theorem dX10_numbers_44 : decode cX10_numbers 44 = .ok (.iadd, 1) := by decide +kernel
theorem dX10_numbers_45 : decode cX10_numbers 45 = .ok (.putfield 224, 3) := by decide +kernel
theorem dX10_numbers_48 : decode cX10_numbers 48 = .ok (.aload_n 0, 1) := by decide +kernel
theorem dX10_numbers_49 : decode cX10_numbers 49 = .ok (.invokevirtual 227, 3) := by decide +kernel
theorem dX10_numbers_52 : decode cX10_numbers 52 = .ok (.goto (-43), 3) := by decide +kernel
theorem dX10_numbers_55 : decode cX10_numbers 55 = .ok (.aload_n 0, 1) := by decide +kernel
theorem dX10_numbers_56 : decode cX10_numbers 56 = .ok (.getfield 224, 3) := by decide +kernel
theorem dX10_numbers_59 : decode cX10_numbers 59 = .ok (.iload_n 1, 1) := by decide +kernel
theorem dX10_numbers_60 : decode cX10_numbers 60 = .ok (.if_icmp .lt 7, 3) := by decide +kernel
theorem dX10_numbers_63 : decode cX10_numbers 63 = .ok (.iconst 1, 1) := by decide +kernel
theorem dX10_numbers_64 : decode cX10_numbers 64 = .ok (.goto 4, 3) := by decide +kernel
theorem dX10_numbers_67 : decode cX10_numbers 67 = .ok (.iconst 0, 1) := by decide +kernel
theorem dX10_numbers_68 : decode cX10_numbers 68 = .ok (.ireturn, 1) := by decide +kernel
theorem dX10_edgeWord_0 : decode cX10_edgeWord 0 = .ok (.aload_n 0, 1) := by decide +kernel
theorem dX10_edgeWord_1 : decode cX10_edgeWord 1 = .ok (.invokevirtual 227, 3) := by decide +kernel
theorem dX10_edgeWord_4 : decode cX10_edgeWord 4 = .ok (.aload_n 0, 1) := by decide +kernel
theorem dX10_edgeWord_5 : decode cX10_edgeWord 5 = .ok (.getfield 192, 3) := by decide +kernel
theorem dX10_edgeWord_8 : decode cX10_edgeWord 8 = .ok (.ldc2_w 230, 3) := by decide +kernel
theorem dX10_edgeWord_11 : decode cX10_edgeWord 11 = .ok (.lcmp, 1) := by decide +kernel
theorem dX10_edgeWord_12 : decode cX10_edgeWord 12 = .ok (.ifCond .ne 7, 3) := by decide +kernel
theorem dX10_edgeWord_15 : decode cX10_edgeWord 15 = .ok (.iconst 0, 1) := by decide +kernel
theorem dX10_edgeWord_16 : decode cX10_edgeWord 16 = .ok (.goto 49, 3) := by decide +kernel
theorem dX10_edgeWord_19 : decode cX10_edgeWord 19 = .ok (.aload_n 0, 1) := by decide +kernel
theorem dX10_edgeWord_20 : decode cX10_edgeWord 20 = .ok (.getfield 192, 3) := by decide +kernel
theorem dX10_edgeWord_23 : decode cX10_edgeWord 23 = .ok (.ldc2_w 232, 3) := by decide +kernel
theorem dX10_edgeWord_26 : decode cX10_edgeWord 26 = .ok (.lcmp, 1) := by decide +kernel
theorem dX10_edgeWord_27 : decode cX10_edgeWord 27 = .ok (.ifCond .ne 7, 3) := by decide +kernel
theorem dX10_edgeWord_30 : decode cX10_edgeWord 30 = .ok (.iconst 1, 1) := by decide +kernel
theorem dX10_edgeWord_31 : decode cX10_edgeWord 31 = .ok (.goto 34, 3) := by decide +kernel
theorem dX10_edgeWord_34 : decode cX10_edgeWord 34 = .ok (.aload_n 0, 1) := by decide +kernel
theorem dX10_edgeWord_35 : decode cX10_edgeWord 35 = .ok (.getfield 192, 3) := by decide +kernel
theorem dX10_edgeWord_38 : decode cX10_edgeWord 38 = .ok (.ldc2_w 234, 3) := by decide +kernel
theorem dX10_edgeWord_41 : decode cX10_edgeWord 41 = .ok (.lcmp, 1) := by decide +kernel
theorem dX10_edgeWord_42 : decode cX10_edgeWord 42 = .ok (.ifCond .ne 7, 3) := by decide +kernel
theorem dX10_edgeWord_45 : decode cX10_edgeWord 45 = .ok (.iconst 2, 1) := by decide +kernel
theorem dX10_edgeWord_46 : decode cX10_edgeWord 46 = .ok (.goto 19, 3) := by decide +kernel
theorem dX10_edgeWord_49 : decode cX10_edgeWord 49 = .ok (.aload_n 0, 1) := by decide +kernel
theorem dX10_edgeWord_50 : decode cX10_edgeWord 50 = .ok (.getfield 192, 3) := by decide +kernel
theorem dX10_edgeWord_53 : decode cX10_edgeWord 53 = .ok (.ldc2_w 236, 3) := by decide +kernel
theorem dX10_edgeWord_56 : decode cX10_edgeWord 56 = .ok (.lcmp, 1) := by decide +kernel
theorem dX10_edgeWord_57 : decode cX10_edgeWord 57 = .ok (.ifCond .ne 7, 3) := by decide +kernel
theorem dX10_edgeWord_60 : decode cX10_edgeWord 60 = .ok (.iconst 3, 1) := by decide +kernel
theorem dX10_edgeWord_61 : decode cX10_edgeWord 61 = .ok (.goto 4, 3) := by decide +kernel
theorem dX10_edgeWord_64 : decode cX10_edgeWord 64 = .ok (.iconst (-1), 1) := by decide +kernel
theorem dX10_edgeWord_65 : decode cX10_edgeWord 65 = .ok (.istore_n 1, 1) := by decide +kernel
theorem dX10_edgeWord_66 : decode cX10_edgeWord 66 = .ok (.iload_n 1, 1) := by decide +kernel
theorem dX10_edgeWord_67 : decode cX10_edgeWord 67 = .ok (.ifCond .lt 7, 3) := by decide +kernel
theorem dX10_edgeWord_70 : decode cX10_edgeWord 70 = .ok (.aload_n 0, 1) := by decide +kernel
theorem dX10_edgeWord_71 : decode cX10_edgeWord 71 = .ok (.invokevirtual 227, 3) := by decide +kernel
theorem dX10_edgeWord_74 : decode cX10_edgeWord 74 = .ok (.iload_n 1, 1) := by decide +kernel
theorem dX10_edgeWord_75 : decode cX10_edgeWord 75 = .ok (.ireturn, 1) := by decide +kernel
theorem dX10_readsNeeds_0 : decode cX10_readsNeeds 0 = .ok (.aload_n 0, 1) := by decide +kernel
theorem dX10_readsNeeds_1 : decode cX10_readsNeeds 1 = .ok (.iconst 0, 1) := by decide +kernel
theorem dX10_readsNeeds_2 : decode cX10_readsNeeds 2 = .ok (.putfield 238, 3) := by decide +kernel
theorem dX10_readsNeeds_5 : decode cX10_readsNeeds 5 = .ok (.lload_n 1, 1) := by decide +kernel
theorem dX10_readsNeeds_6 : decode cX10_readsNeeds 6 = .ok (.ldc2_w 241, 3) := by decide +kernel
theorem dX10_readsNeeds_9 : decode cX10_readsNeeds 9 = .ok (.lcmp, 1) := by decide +kernel
theorem dX10_readsNeeds_10 : decode cX10_readsNeeds 10 = .ok (.ifCond .eq 11, 3) := by decide +kernel
theorem dX10_readsNeeds_13 : decode cX10_readsNeeds 13 = .ok (.lload_n 1, 1) := by decide +kernel
theorem dX10_readsNeeds_14 : decode cX10_readsNeeds 14 = .ok (.ldc2_w 243, 3) := by decide +kernel
theorem dX10_readsNeeds_17 : decode cX10_readsNeeds 17 = .ok (.lcmp, 1) := by decide +kernel
theorem dX10_readsNeeds_18 : decode cX10_readsNeeds 18 = .ok (.ifCond .ne 78, 3) := by decide +kernel
theorem dX10_readsNeeds_21 : decode cX10_readsNeeds 21 = .ok (.aload_n 0, 1) := by decide +kernel
theorem dX10_readsNeeds_22 : decode cX10_readsNeeds 22 = .ok (.getfield 196, 3) := by decide +kernel
theorem dX10_readsNeeds_25 : decode cX10_readsNeeds 25 = .ok (.istore_n 3, 1) := by decide +kernel
theorem dX10_readsNeeds_26 : decode cX10_readsNeeds 26 = .ok (.aload_n 0, 1) := by decide +kernel
theorem dX10_readsNeeds_27 : decode cX10_readsNeeds 27 = .ok (.getfield 46, 3) := by decide +kernel
theorem dX10_readsNeeds_30 : decode cX10_readsNeeds 30 = .ok (.iconst 0, 1) := by decide +kernel
theorem dX10_readsNeeds_31 : decode cX10_readsNeeds 31 = .ok (.aload_n 0, 1) := by decide +kernel
theorem dX10_readsNeeds_32 : decode cX10_readsNeeds 32 = .ok (.invokevirtual 245, 3) := by decide +kernel
theorem dX10_readsNeeds_35 : decode cX10_readsNeeds 35 = .ok (.iastore, 1) := by decide +kernel
theorem dX10_readsNeeds_36 : decode cX10_readsNeeds 36 = .ok (.aload_n 0, 1) := by decide +kernel
theorem dX10_readsNeeds_37 : decode cX10_readsNeeds 37 = .ok (.getfield 46, 3) := by decide +kernel
theorem dX10_readsNeeds_40 : decode cX10_readsNeeds 40 = .ok (.iconst 0, 1) := by decide +kernel
theorem dX10_readsNeeds_41 : decode cX10_readsNeeds 41 = .ok (.iaload, 1) := by decide +kernel
theorem dX10_readsNeeds_42 : decode cX10_readsNeeds 42 = .ok (.ifCond .lt 34, 3) := by decide +kernel
theorem dX10_readsNeeds_45 : decode cX10_readsNeeds 45 = .ok (.lload_n 1, 1) := by decide +kernel
theorem dX10_readsNeeds_46 : decode cX10_readsNeeds 46 = .ok (.ldc2_w 241, 3) := by decide +kernel
theorem dX10_readsNeeds_49 : decode cX10_readsNeeds 49 = .ok (.lcmp, 1) := by decide +kernel
theorem dX10_readsNeeds_50 : decode cX10_readsNeeds 50 = .ok (.ifCond .eq 22, 3) := by decide +kernel
theorem dX10_readsNeeds_53 : decode cX10_readsNeeds 53 = .ok (.aload_n 0, 1) := by decide +kernel
theorem dX10_readsNeeds_54 : decode cX10_readsNeeds 54 = .ok (.getfield 46, 3) := by decide +kernel
theorem dX10_readsNeeds_57 : decode cX10_readsNeeds 57 = .ok (.iconst 0, 1) := by decide +kernel
theorem dX10_readsNeeds_58 : decode cX10_readsNeeds 58 = .ok (.iaload, 1) := by decide +kernel
theorem dX10_readsNeeds_59 : decode cX10_readsNeeds 59 = .ok (.ifCond .eq 13, 3) := by decide +kernel
theorem dX10_readsNeeds_62 : decode cX10_readsNeeds 62 = .ok (.aload_n 0, 1) := by decide +kernel
theorem dX10_readsNeeds_63 : decode cX10_readsNeeds 63 = .ok (.getfield 46, 3) := by decide +kernel
theorem dX10_readsNeeds_66 : decode cX10_readsNeeds 66 = .ok (.iconst 0, 1) := by decide +kernel
theorem dX10_readsNeeds_67 : decode cX10_readsNeeds 67 = .ok (.iaload, 1) := by decide +kernel
theorem dX10_readsNeeds_68 : decode cX10_readsNeeds 68 = .ok (.iconst 2, 1) := by decide +kernel
theorem dX10_readsNeeds_69 : decode cX10_readsNeeds 69 = .ok (.if_icmp .ne 7, 3) := by decide +kernel
theorem dX10_readsNeeds_72 : decode cX10_readsNeeds 72 = .ok (.iconst 1, 1) := by decide +kernel
theorem dX10_readsNeeds_73 : decode cX10_readsNeeds 73 = .ok (.goto 4, 3) := by decide +kernel
theorem dX10_readsNeeds_76 : decode cX10_readsNeeds 76 = .ok (.iconst 0, 1) := by decide +kernel
theorem dX10_readsNeeds_77 : decode cX10_readsNeeds 77 = .ok (.istore 4, 2) := by decide +kernel
theorem dX10_readsNeeds_79 : decode cX10_readsNeeds 79 = .ok (.iload 4, 2) := by decide +kernel
theorem dX10_readsNeeds_81 : decode cX10_readsNeeds 81 = .ok (.ifCond .ne 12, 3) := by decide +kernel
theorem dX10_readsNeeds_84 : decode cX10_readsNeeds 84 = .ok (.aload_n 0, 1) := by decide +kernel
theorem dX10_readsNeeds_85 : decode cX10_readsNeeds 85 = .ok (.iload_n 3, 1) := by decide +kernel
theorem dX10_readsNeeds_86 : decode cX10_readsNeeds 86 = .ok (.putfield 196, 3) := by decide +kernel
theorem dX10_readsNeeds_89 : decode cX10_readsNeeds 89 = .ok (.aload_n 0, 1) := by decide +kernel
theorem dX10_readsNeeds_90 : decode cX10_readsNeeds 90 = .ok (.invokevirtual 227, 3) := by decide +kernel
theorem dX10_readsNeeds_93 : decode cX10_readsNeeds 93 = .ok (.iload 4, 2) := by decide +kernel
theorem dX10_readsNeeds_95 : decode cX10_readsNeeds 95 = .ok (.ireturn, 1) := by decide +kernel
theorem dX10_readsNeeds_96 : decode cX10_readsNeeds 96 = .ok (.lload_n 1, 1) := by decide +kernel
theorem dX10_readsNeeds_97 : decode cX10_readsNeeds 97 = .ok (.ldc2_w 248, 3) := by decide +kernel
theorem dX10_readsNeeds_100 : decode cX10_readsNeeds 100 = .ok (.lcmp, 1) := by decide +kernel
theorem dX10_readsNeeds_101 : decode cX10_readsNeeds 101 = .ok (.ifCond .ne 47, 3) := by decide +kernel
theorem dX10_readsNeeds_104 : decode cX10_readsNeeds 104 = .ok (.aload_n 0, 1) := by decide +kernel
theorem dX10_readsNeeds_105 : decode cX10_readsNeeds 105 = .ok (.iconst 3, 1) := by decide +kernel
theorem dX10_readsNeeds_106 : decode cX10_readsNeeds 106 = .ok (.iconst 3, 1) := by decide +kernel
theorem dX10_readsNeeds_107 : decode cX10_readsNeeds 107 = .ok (.invokevirtual 250, 3) := by decide +kernel
theorem dX10_readsNeeds_110 : decode cX10_readsNeeds 110 = .ok (.istore_n 3, 1) := by decide +kernel
theorem dX10_readsNeeds_111 : decode cX10_readsNeeds 111 = .ok (.aload_n 0, 1) := by decide +kernel
theorem dX10_readsNeeds_112 : decode cX10_readsNeeds 112 = .ok (.iload_n 3, 1) := by decide +kernel
theorem dX10_readsNeeds_113 : decode cX10_readsNeeds 113 = .ok (.ifCond .eq 18, 3) := by decide +kernel
theorem dX10_readsNeeds_116 : decode cX10_readsNeeds 116 = .ok (.aload_n 0, 1) := by decide +kernel
theorem dX10_readsNeeds_117 : decode cX10_readsNeeds 117 = .ok (.getfield 192, 3) := by decide +kernel
theorem dX10_readsNeeds_120 : decode cX10_readsNeeds 120 = .ok (.ldc2_w 253, 3) := by decide +kernel
theorem dX10_readsNeeds_123 : decode cX10_readsNeeds 123 = .ok (.lcmp, 1) := by decide +kernel
theorem dX10_readsNeeds_124 : decode cX10_readsNeeds 124 = .ok (.ifCond .ne 7, 3) := by decide +kernel
theorem dX10_readsNeeds_127 : decode cX10_readsNeeds 127 = .ok (.iconst 1, 1) := by decide +kernel
theorem dX10_readsNeeds_128 : decode cX10_readsNeeds 128 = .ok (.goto 4, 3) := by decide +kernel
theorem dX10_readsNeeds_131 : decode cX10_readsNeeds 131 = .ok (.iconst 0, 1) := by decide +kernel
theorem dX10_readsNeeds_132 : decode cX10_readsNeeds 132 = .ok (.putfield 238, 3) := by decide +kernel
theorem dX10_readsNeeds_135 : decode cX10_readsNeeds 135 = .ok (.aload_n 0, 1) := by decide +kernel
theorem dX10_readsNeeds_136 : decode cX10_readsNeeds 136 = .ok (.getfield 238, 3) := by decide +kernel
theorem dX10_readsNeeds_139 : decode cX10_readsNeeds 139 = .ok (.ifCond .eq 7, 3) := by decide +kernel
theorem dX10_readsNeeds_142 : decode cX10_readsNeeds 142 = .ok (.aload_n 0, 1) := by decide +kernel
theorem dX10_readsNeeds_143 : decode cX10_readsNeeds 143 = .ok (.invokevirtual 227, 3) := by decide +kernel
theorem dX10_readsNeeds_146 : decode cX10_readsNeeds 146 = .ok (.iload_n 3, 1) := by decide +kernel
theorem dX10_readsNeeds_147 : decode cX10_readsNeeds 147 = .ok (.ireturn, 1) := by decide +kernel
theorem dX10_readsNeeds_148 : decode cX10_readsNeeds 148 = .ok (.lload_n 1, 1) := by decide +kernel
theorem dX10_readsNeeds_149 : decode cX10_readsNeeds 149 = .ok (.ldc2_w 255, 3) := by decide +kernel
theorem dX10_readsNeeds_152 : decode cX10_readsNeeds 152 = .ok (.lcmp, 1) := by decide +kernel
theorem dX10_readsNeeds_153 : decode cX10_readsNeeds 153 = .ok (.ifCond .ne 10, 3) := by decide +kernel
theorem dX10_readsNeeds_156 : decode cX10_readsNeeds 156 = .ok (.aload_n 0, 1) := by decide +kernel
theorem dX10_readsNeeds_157 : decode cX10_readsNeeds 157 = .ok (.iconst 1, 1) := by decide +kernel
theorem dX10_readsNeeds_158 : decode cX10_readsNeeds 158 = .ok (.iconst 4, 1) := by decide +kernel
theorem dX10_readsNeeds_159 : decode cX10_readsNeeds 159 = .ok (.invokevirtual 250, 3) := by decide +kernel
theorem dX10_readsNeeds_162 : decode cX10_readsNeeds 162 = .ok (.ireturn, 1) := by decide +kernel
theorem dX10_readsNeeds_163 : decode cX10_readsNeeds 163 = .ok (.lload_n 1, 1) := by decide +kernel
theorem dX10_readsNeeds_164 : decode cX10_readsNeeds 164 = .ok (.ldc2_w 257, 3) := by decide +kernel
theorem dX10_readsNeeds_167 : decode cX10_readsNeeds 167 = .ok (.lcmp, 1) := by decide +kernel
theorem dX10_readsNeeds_168 : decode cX10_readsNeeds 168 = .ok (.ifCond .ne 7, 3) := by decide +kernel
theorem dX10_readsNeeds_171 : decode cX10_readsNeeds 171 = .ok (.iconst 2, 1) := by decide +kernel
theorem dX10_readsNeeds_172 : decode cX10_readsNeeds 172 = .ok (.goto 16, 3) := by decide +kernel
theorem dX10_readsNeeds_175 : decode cX10_readsNeeds 175 = .ok (.lload_n 1, 1) := by decide +kernel
theorem dX10_readsNeeds_176 : decode cX10_readsNeeds 176 = .ok (.ldc2_w 259, 3) := by decide +kernel
theorem dX10_readsNeeds_179 : decode cX10_readsNeeds 179 = .ok (.lcmp, 1) := by decide +kernel
theorem dX10_readsNeeds_180 : decode cX10_readsNeeds 180 = .ok (.ifCond .ne 7, 3) := by decide +kernel
theorem dX10_readsNeeds_183 : decode cX10_readsNeeds 183 = .ok (.iconst 0, 1) := by decide +kernel
theorem dX10_readsNeeds_184 : decode cX10_readsNeeds 184 = .ok (.goto 4, 3) := by decide +kernel
theorem dX10_readsNeeds_187 : decode cX10_readsNeeds 187 = .ok (.iconst 1, 1) := by decide +kernel
theorem dX10_readsNeeds_188 : decode cX10_readsNeeds 188 = .ok (.istore_n 3, 1) := by decide +kernel
theorem dX10_readsNeeds_189 : decode cX10_readsNeeds 189 = .ok (.aload_n 0, 1) := by decide +kernel
theorem dX10_readsNeeds_190 : decode cX10_readsNeeds 190 = .ok (.iload_n 3, 1) := by decide +kernel
theorem dX10_readsNeeds_191 : decode cX10_readsNeeds 191 = .ok (.iload_n 3, 1) := by decide +kernel
theorem dX10_readsNeeds_192 : decode cX10_readsNeeds 192 = .ok (.invokevirtual 250, 3) := by decide +kernel
theorem dX10_readsNeeds_195 : decode cX10_readsNeeds 195 = .ok (.ireturn, 1) := by decide +kernel
theorem dX10_isCommand_0 : decode cX10_isCommand 0 = .ok (.lload_n 0, 1) := by decide +kernel
theorem dX10_isCommand_1 : decode cX10_isCommand 1 = .ok (.ldc2_w 257, 3) := by decide +kernel
theorem dX10_isCommand_4 : decode cX10_isCommand 4 = .ok (.lcmp, 1) := by decide +kernel
theorem dX10_isCommand_5 : decode cX10_isCommand 5 = .ok (.ifCond .eq 67, 3) := by decide +kernel
theorem dX10_isCommand_8 : decode cX10_isCommand 8 = .ok (.lload_n 0, 1) := by decide +kernel
theorem dX10_isCommand_9 : decode cX10_isCommand 9 = .ok (.ldc2_w 255, 3) := by decide +kernel
theorem dX10_isCommand_12 : decode cX10_isCommand 12 = .ok (.lcmp, 1) := by decide +kernel
theorem dX10_isCommand_13 : decode cX10_isCommand 13 = .ok (.ifCond .eq 59, 3) := by decide +kernel
theorem dX10_isCommand_16 : decode cX10_isCommand 16 = .ok (.lload_n 0, 1) := by decide +kernel
theorem dX10_isCommand_17 : decode cX10_isCommand 17 = .ok (.ldc2_w 259, 3) := by decide +kernel
theorem dX10_isCommand_20 : decode cX10_isCommand 20 = .ok (.lcmp, 1) := by decide +kernel
theorem dX10_isCommand_21 : decode cX10_isCommand 21 = .ok (.ifCond .eq 51, 3) := by decide +kernel
theorem dX10_isCommand_24 : decode cX10_isCommand 24 = .ok (.lload_n 0, 1) := by decide +kernel
theorem dX10_isCommand_25 : decode cX10_isCommand 25 = .ok (.ldc2_w 243, 3) := by decide +kernel
theorem dX10_isCommand_28 : decode cX10_isCommand 28 = .ok (.lcmp, 1) := by decide +kernel
theorem dX10_isCommand_29 : decode cX10_isCommand 29 = .ok (.ifCond .eq 43, 3) := by decide +kernel
theorem dX10_isCommand_32 : decode cX10_isCommand 32 = .ok (.lload_n 0, 1) := by decide +kernel
theorem dX10_isCommand_33 : decode cX10_isCommand 33 = .ok (.ldc2_w 261, 3) := by decide +kernel
theorem dX10_isCommand_36 : decode cX10_isCommand 36 = .ok (.lcmp, 1) := by decide +kernel
theorem dX10_isCommand_37 : decode cX10_isCommand 37 = .ok (.ifCond .eq 35, 3) := by decide +kernel
theorem dX10_isCommand_40 : decode cX10_isCommand 40 = .ok (.lload_n 0, 1) := by decide +kernel
theorem dX10_isCommand_41 : decode cX10_isCommand 41 = .ok (.ldc2_w 241, 3) := by decide +kernel
theorem dX10_isCommand_44 : decode cX10_isCommand 44 = .ok (.lcmp, 1) := by decide +kernel
theorem dX10_isCommand_45 : decode cX10_isCommand 45 = .ok (.ifCond .eq 27, 3) := by decide +kernel
theorem dX10_isCommand_48 : decode cX10_isCommand 48 = .ok (.lload_n 0, 1) := by decide +kernel
theorem dX10_isCommand_49 : decode cX10_isCommand 49 = .ok (.ldc2_w 263, 3) := by decide +kernel
theorem dX10_isCommand_52 : decode cX10_isCommand 52 = .ok (.lcmp, 1) := by decide +kernel
theorem dX10_isCommand_53 : decode cX10_isCommand 53 = .ok (.ifCond .eq 19, 3) := by decide +kernel
theorem dX10_isCommand_56 : decode cX10_isCommand 56 = .ok (.lload_n 0, 1) := by decide +kernel
theorem dX10_isCommand_57 : decode cX10_isCommand 57 = .ok (.ldc2_w 248, 3) := by decide +kernel
theorem dX10_isCommand_60 : decode cX10_isCommand 60 = .ok (.lcmp, 1) := by decide +kernel
theorem dX10_isCommand_61 : decode cX10_isCommand 61 = .ok (.ifCond .eq 11, 3) := by decide +kernel
theorem dX10_isCommand_64 : decode cX10_isCommand 64 = .ok (.lload_n 0, 1) := by decide +kernel
theorem dX10_isCommand_65 : decode cX10_isCommand 65 = .ok (.ldc2_w 265, 3) := by decide +kernel
theorem dX10_isCommand_68 : decode cX10_isCommand 68 = .ok (.lcmp, 1) := by decide +kernel
theorem dX10_isCommand_69 : decode cX10_isCommand 69 = .ok (.ifCond .ne 7, 3) := by decide +kernel
theorem dX10_isCommand_72 : decode cX10_isCommand 72 = .ok (.iconst 1, 1) := by decide +kernel
theorem dX10_isCommand_73 : decode cX10_isCommand 73 = .ok (.goto 4, 3) := by decide +kernel
theorem dX10_isCommand_76 : decode cX10_isCommand 76 = .ok (.iconst 0, 1) := by decide +kernel
theorem dX10_isCommand_77 : decode cX10_isCommand 77 = .ok (.ireturn, 1) := by decide +kernel
theorem dX10_doFolds_0 : decode cX10_doFolds 0 = .ok (.iconst 0, 1) := by decide +kernel
theorem dX10_doFolds_1 : decode cX10_doFolds 1 = .ok (.istore_n 1, 1) := by decide +kernel
theorem dX10_doFolds_2 : decode cX10_doFolds 2 = .ok (.iconst 0, 1) := by decide +kernel
theorem dX10_doFolds_3 : decode cX10_doFolds 3 = .ok (.istore_n 2, 1) := by decide +kernel
theorem dX10_doFolds_4 : decode cX10_doFolds 4 = .ok (.iload_n 2, 1) := by decide +kernel
theorem dX10_doFolds_5 : decode cX10_doFolds 5 = .ok (.aload_n 0, 1) := by decide +kernel
theorem dX10_doFolds_6 : decode cX10_doFolds 6 = .ok (.getfield 224, 3) := by decide +kernel
theorem dX10_doFolds_9 : decode cX10_doFolds 9 = .ok (.if_icmp .ge 24, 3) := by decide +kernel
theorem dX10_doFolds_12 : decode cX10_doFolds 12 = .ok (.iload_n 1, 1) := by decide +kernel
theorem dX10_doFolds_13 : decode cX10_doFolds 13 = .ok (.ifCond .lt 20, 3) := by decide +kernel
theorem dX10_doFolds_16 : decode cX10_doFolds 16 = .ok (.aload_n 0, 1) := by decide +kernel
theorem dX10_doFolds_17 : decode cX10_doFolds 17 = .ok (.aload_n 0, 1) := by decide +kernel
theorem dX10_doFolds_18 : decode cX10_doFolds 18 = .ok (.getfield 46, 3) := by decide +kernel
theorem dX10_doFolds_21 : decode cX10_doFolds 21 = .ok (.iload_n 2, 1) := by decide +kernel
theorem dX10_doFolds_22 : decode cX10_doFolds 22 = .ok (.iaload, 1) := by decide +kernel
theorem dX10_doFolds_23 : decode cX10_doFolds 23 = .ok (.invokevirtual 267, 3) := by decide +kernel
theorem dX10_doFolds_26 : decode cX10_doFolds 26 = .ok (.istore_n 1, 1) := by decide +kernel
theorem dX10_doFolds_27 : decode cX10_doFolds 27 = .ok (.iinc 2 1, 3) := by decide +kernel
theorem dX10_doFolds_30 : decode cX10_doFolds 30 = .ok (.goto (-26), 3) := by decide +kernel
theorem dX10_doFolds_33 : decode cX10_doFolds 33 = .ok (.iload_n 1, 1) := by decide +kernel
theorem dX10_doFolds_34 : decode cX10_doFolds 34 = .ok (.ireturn, 1) := by decide +kernel
theorem dX10_doCommand_0 : decode cX10_doCommand 0 = .ok (.lload_n 1, 1) := by decide +kernel
theorem dX10_doCommand_1 : decode cX10_doCommand 1 = .ok (.ldc2_w 257, 3) := by decide +kernel
theorem dX10_doCommand_4 : decode cX10_doCommand 4 = .ok (.lcmp, 1) := by decide +kernel
theorem dX10_doCommand_5 : decode cX10_doCommand 5 = .ok (.ifCond .ne 20, 3) := by decide +kernel
theorem dX10_doCommand_8 : decode cX10_doCommand 8 = .ok (.aload_n 0, 1) := by decide +kernel
theorem dX10_doCommand_9 : decode cX10_doCommand 9 = .ok (.aload_n 0, 1) := by decide +kernel
theorem dX10_doCommand_10 : decode cX10_doCommand 10 = .ok (.getfield 46, 3) := by decide +kernel
theorem dX10_doCommand_13 : decode cX10_doCommand 13 = .ok (.iconst 0, 1) := by decide +kernel
theorem dX10_doCommand_14 : decode cX10_doCommand 14 = .ok (.iaload, 1) := by decide +kernel
theorem dX10_doCommand_15 : decode cX10_doCommand 15 = .ok (.aload_n 0, 1) := by decide +kernel
theorem dX10_doCommand_16 : decode cX10_doCommand 16 = .ok (.getfield 46, 3) := by decide +kernel
theorem dX10_doCommand_19 : decode cX10_doCommand 19 = .ok (.iconst 1, 1) := by decide +kernel
theorem dX10_doCommand_20 : decode cX10_doCommand 20 = .ok (.iaload, 1) := by decide +kernel
theorem dX10_doCommand_21 : decode cX10_doCommand 21 = .ok (.invokevirtual 270, 3) := by decide +kernel
theorem dX10_doCommand_24 : decode cX10_doCommand 24 = .ok (.ireturn, 1) := by decide +kernel
theorem dX10_doCommand_25 : decode cX10_doCommand 25 = .ok (.lload_n 1, 1) := by decide +kernel
theorem dX10_doCommand_26 : decode cX10_doCommand 26 = .ok (.ldc2_w 255, 3) := by decide +kernel
theorem dX10_doCommand_29 : decode cX10_doCommand 29 = .ok (.lcmp, 1) := by decide +kernel
theorem dX10_doCommand_30 : decode cX10_doCommand 30 = .ok (.ifCond .ne 8, 3) := by decide +kernel
theorem dX10_doCommand_33 : decode cX10_doCommand 33 = .ok (.aload_n 0, 1) := by decide +kernel
theorem dX10_doCommand_34 : decode cX10_doCommand 34 = .ok (.invokevirtual 273, 3) := by decide +kernel
theorem dX10_doCommand_37 : decode cX10_doCommand 37 = .ok (.ireturn, 1) := by decide +kernel
theorem dX10_doCommand_38 : decode cX10_doCommand 38 = .ok (.lload_n 1, 1) := by decide +kernel
theorem dX10_doCommand_39 : decode cX10_doCommand 39 = .ok (.ldc2_w 259, 3) := by decide +kernel
theorem dX10_doCommand_42 : decode cX10_doCommand 42 = .ok (.lcmp, 1) := by decide +kernel
theorem dX10_doCommand_43 : decode cX10_doCommand 43 = .ok (.ifCond .ne 8, 3) := by decide +kernel
theorem dX10_doCommand_46 : decode cX10_doCommand 46 = .ok (.aload_n 0, 1) := by decide +kernel
theorem dX10_doCommand_47 : decode cX10_doCommand 47 = .ok (.invokevirtual 276, 3) := by decide +kernel
theorem dX10_doCommand_50 : decode cX10_doCommand 50 = .ok (.ireturn, 1) := by decide +kernel
theorem dX10_doCommand_51 : decode cX10_doCommand 51 = .ok (.lload_n 1, 1) := by decide +kernel
theorem dX10_doCommand_52 : decode cX10_doCommand 52 = .ok (.ldc2_w 243, 3) := by decide +kernel
theorem dX10_doCommand_55 : decode cX10_doCommand 55 = .ok (.lcmp, 1) := by decide +kernel
theorem dX10_doCommand_56 : decode cX10_doCommand 56 = .ok (.ifCond .ne 22, 3) := by decide +kernel
theorem dX10_doCommand_59 : decode cX10_doCommand 59 = .ok (.aload_n 0, 1) := by decide +kernel
theorem dX10_doCommand_60 : decode cX10_doCommand 60 = .ok (.aload_n 0, 1) := by decide +kernel
theorem dX10_doCommand_61 : decode cX10_doCommand 61 = .ok (.getfield 46, 3) := by decide +kernel
theorem dX10_doCommand_64 : decode cX10_doCommand 64 = .ok (.iconst 0, 1) := by decide +kernel
theorem dX10_doCommand_65 : decode cX10_doCommand 65 = .ok (.iaload, 1) := by decide +kernel
theorem dX10_doCommand_66 : decode cX10_doCommand 66 = .ok (.ifCond .ne 7, 3) := by decide +kernel
theorem dX10_doCommand_69 : decode cX10_doCommand 69 = .ok (.iconst 0, 1) := by decide +kernel
theorem dX10_doCommand_70 : decode cX10_doCommand 70 = .ok (.goto 4, 3) := by decide +kernel
theorem dX10_doCommand_73 : decode cX10_doCommand 73 = .ok (.iconst 1, 1) := by decide +kernel
theorem dX10_doCommand_74 : decode cX10_doCommand 74 = .ok (.invokevirtual 279, 3) := by decide +kernel
theorem dX10_doCommand_77 : decode cX10_doCommand 77 = .ok (.ireturn, 1) := by decide +kernel
theorem dX10_doCommand_78 : decode cX10_doCommand 78 = .ok (.lload_n 1, 1) := by decide +kernel
theorem dX10_doCommand_79 : decode cX10_doCommand 79 = .ok (.ldc2_w 261, 3) := by decide +kernel
theorem dX10_doCommand_82 : decode cX10_doCommand 82 = .ok (.lcmp, 1) := by decide +kernel
theorem dX10_doCommand_83 : decode cX10_doCommand 83 = .ok (.ifCond .ne 14, 3) := by decide +kernel
theorem dX10_doCommand_86 : decode cX10_doCommand 86 = .ok (.aload_n 0, 1) := by decide +kernel
theorem dX10_doCommand_87 : decode cX10_doCommand 87 = .ok (.aload_n 0, 1) := by decide +kernel
theorem dX10_doCommand_88 : decode cX10_doCommand 88 = .ok (.getfield 46, 3) := by decide +kernel
theorem dX10_doCommand_91 : decode cX10_doCommand 91 = .ok (.iconst 0, 1) := by decide +kernel
theorem dX10_doCommand_92 : decode cX10_doCommand 92 = .ok (.iaload, 1) := by decide +kernel
theorem dX10_doCommand_93 : decode cX10_doCommand 93 = .ok (.invokevirtual 282, 3) := by decide +kernel
theorem dX10_doCommand_96 : decode cX10_doCommand 96 = .ok (.ireturn, 1) := by decide +kernel
theorem dX10_doCommand_97 : decode cX10_doCommand 97 = .ok (.lload_n 1, 1) := by decide +kernel
theorem dX10_doCommand_98 : decode cX10_doCommand 98 = .ok (.ldc2_w 241, 3) := by decide +kernel
theorem dX10_doCommand_101 : decode cX10_doCommand 101 = .ok (.lcmp, 1) := by decide +kernel
theorem dX10_doCommand_102 : decode cX10_doCommand 102 = .ok (.ifCond .ne 14, 3) := by decide +kernel
theorem dX10_doCommand_105 : decode cX10_doCommand 105 = .ok (.aload_n 0, 1) := by decide +kernel
theorem dX10_doCommand_106 : decode cX10_doCommand 106 = .ok (.aload_n 0, 1) := by decide +kernel
theorem dX10_doCommand_107 : decode cX10_doCommand 107 = .ok (.getfield 46, 3) := by decide +kernel
theorem dX10_doCommand_110 : decode cX10_doCommand 110 = .ok (.iconst 0, 1) := by decide +kernel
theorem dX10_doCommand_111 : decode cX10_doCommand 111 = .ok (.iaload, 1) := by decide +kernel
theorem dX10_doCommand_112 : decode cX10_doCommand 112 = .ok (.invokevirtual 285, 3) := by decide +kernel
theorem dX10_doCommand_115 : decode cX10_doCommand 115 = .ok (.ireturn, 1) := by decide +kernel
theorem dX10_doCommand_116 : decode cX10_doCommand 116 = .ok (.lload_n 1, 1) := by decide +kernel
theorem dX10_doCommand_117 : decode cX10_doCommand 117 = .ok (.ldc2_w 263, 3) := by decide +kernel
theorem dX10_doCommand_120 : decode cX10_doCommand 120 = .ok (.lcmp, 1) := by decide +kernel
theorem dX10_doCommand_121 : decode cX10_doCommand 121 = .ok (.ifCond .ne 14, 3) := by decide +kernel
theorem dX10_doCommand_124 : decode cX10_doCommand 124 = .ok (.aload_n 0, 1) := by decide +kernel
theorem dX10_doCommand_125 : decode cX10_doCommand 125 = .ok (.aload_n 0, 1) := by decide +kernel
theorem dX10_doCommand_126 : decode cX10_doCommand 126 = .ok (.getfield 46, 3) := by decide +kernel
theorem dX10_doCommand_129 : decode cX10_doCommand 129 = .ok (.iconst 0, 1) := by decide +kernel
theorem dX10_doCommand_130 : decode cX10_doCommand 130 = .ok (.iaload, 1) := by decide +kernel
theorem dX10_doCommand_131 : decode cX10_doCommand 131 = .ok (.invokevirtual 288, 3) := by decide +kernel
theorem dX10_doCommand_134 : decode cX10_doCommand 134 = .ok (.ireturn, 1) := by decide +kernel
theorem dX10_doCommand_135 : decode cX10_doCommand 135 = .ok (.lload_n 1, 1) := by decide +kernel
theorem dX10_doCommand_136 : decode cX10_doCommand 136 = .ok (.ldc2_w 248, 3) := by decide +kernel
theorem dX10_doCommand_139 : decode cX10_doCommand 139 = .ok (.lcmp, 1) := by decide +kernel
theorem dX10_doCommand_140 : decode cX10_doCommand 140 = .ok (.ifCond .ne 40, 3) := by decide +kernel
theorem dX10_doCommand_143 : decode cX10_doCommand 143 = .ok (.aload_n 0, 1) := by decide +kernel
theorem dX10_doCommand_144 : decode cX10_doCommand 144 = .ok (.aload_n 0, 1) := by decide +kernel
theorem dX10_doCommand_145 : decode cX10_doCommand 145 = .ok (.getfield 46, 3) := by decide +kernel
theorem dX10_doCommand_148 : decode cX10_doCommand 148 = .ok (.iconst 0, 1) := by decide +kernel
theorem dX10_doCommand_149 : decode cX10_doCommand 149 = .ok (.iaload, 1) := by decide +kernel
theorem dX10_doCommand_150 : decode cX10_doCommand 150 = .ok (.aload_n 0, 1) := by decide +kernel
theorem dX10_doCommand_151 : decode cX10_doCommand 151 = .ok (.getfield 46, 3) := by decide +kernel
theorem dX10_doCommand_154 : decode cX10_doCommand 154 = .ok (.iconst 1, 1) := by decide +kernel
theorem dX10_doCommand_155 : decode cX10_doCommand 155 = .ok (.iaload, 1) := by decide +kernel
theorem dX10_doCommand_156 : decode cX10_doCommand 156 = .ok (.aload_n 0, 1) := by decide +kernel
theorem dX10_doCommand_157 : decode cX10_doCommand 157 = .ok (.getfield 46, 3) := by decide +kernel
theorem dX10_doCommand_160 : decode cX10_doCommand 160 = .ok (.iconst 2, 1) := by decide +kernel
theorem dX10_doCommand_161 : decode cX10_doCommand 161 = .ok (.iaload, 1) := by decide +kernel
theorem dX10_doCommand_162 : decode cX10_doCommand 162 = .ok (.aload_n 0, 1) := by decide +kernel
theorem dX10_doCommand_163 : decode cX10_doCommand 163 = .ok (.getfield 238, 3) := by decide +kernel
theorem dX10_doCommand_166 : decode cX10_doCommand 166 = .ok (.ifCond .eq 7, 3) := by decide +kernel
theorem dX10_doCommand_169 : decode cX10_doCommand 169 = .ok (.iconst 1, 1) := by decide +kernel
theorem dX10_doCommand_170 : decode cX10_doCommand 170 = .ok (.goto 4, 3) := by decide +kernel
theorem dX10_doCommand_173 : decode cX10_doCommand 173 = .ok (.iconst 0, 1) := by decide +kernel
theorem dX10_doCommand_174 : decode cX10_doCommand 174 = .ok (.invokevirtual 291, 3) := by decide +kernel
theorem dX10_doCommand_177 : decode cX10_doCommand 177 = .ok (.goto 13, 3) := by decide +kernel
theorem dX10_doCommand_180 : decode cX10_doCommand 180 = .ok (.aload_n 0, 1) := by decide +kernel
theorem dX10_doCommand_181 : decode cX10_doCommand 181 = .ok (.aload_n 0, 1) := by decide +kernel
theorem dX10_doCommand_182 : decode cX10_doCommand 182 = .ok (.getfield 46, 3) := by decide +kernel
theorem dX10_doCommand_185 : decode cX10_doCommand 185 = .ok (.iconst 0, 1) := by decide +kernel
theorem dX10_doCommand_186 : decode cX10_doCommand 186 = .ok (.iaload, 1) := by decide +kernel
theorem dX10_doCommand_187 : decode cX10_doCommand 187 = .ok (.invokevirtual 295, 3) := by decide +kernel
theorem dX10_doCommand_190 : decode cX10_doCommand 190 = .ok (.ireturn, 1) := by decide +kernel
theorem dX10_runAll_0 : decode cX10_runAll 0 = .ok (.iconst 0, 1) := by decide +kernel
theorem dX10_runAll_1 : decode cX10_runAll 1 = .ok (.istore_n 1, 1) := by decide +kernel
theorem dX10_runAll_2 : decode cX10_runAll 2 = .ok (.aload_n 0, 1) := by decide +kernel
theorem dX10_runAll_3 : decode cX10_runAll 3 = .ok (.iconst 0, 1) := by decide +kernel
theorem dX10_runAll_4 : decode cX10_runAll 4 = .ok (.putfield 196, 3) := by decide +kernel
theorem dX10_runAll_7 : decode cX10_runAll 7 = .ok (.aload_n 0, 1) := by decide +kernel
theorem dX10_runAll_8 : decode cX10_runAll 8 = .ok (.iconst (-1), 1) := by decide +kernel
theorem dX10_runAll_9 : decode cX10_runAll 9 = .ok (.putfield 298, 3) := by decide +kernel
theorem dX10_runAll_12 : decode cX10_runAll 12 = .ok (.aload_n 0, 1) := by decide +kernel
theorem dX10_runAll_13 : decode cX10_runAll 13 = .ok (.invokevirtual 227, 3) := by decide +kernel
theorem dX10_runAll_16 : decode cX10_runAll 16 = .ok (.aload_n 0, 1) := by decide +kernel
theorem dX10_runAll_17 : decode cX10_runAll 17 = .ok (.getfield 206, 3) := by decide +kernel
theorem dX10_runAll_20 : decode cX10_runAll 20 = .ok (.ifCond .eq 100, 3) := by decide +kernel
theorem dX10_runAll_23 : decode cX10_runAll 23 = .ok (.aload_n 0, 1) := by decide +kernel
theorem dX10_runAll_24 : decode cX10_runAll 24 = .ok (.getfield 298, 3) := by decide +kernel
theorem dX10_runAll_27 : decode cX10_runAll 27 = .ok (.ifCond .ge 93, 3) := by decide +kernel
theorem dX10_runAll_30 : decode cX10_runAll 30 = .ok (.aload_n 0, 1) := by decide +kernel
theorem dX10_runAll_31 : decode cX10_runAll 31 = .ok (.getfield 215, 3) := by decide +kernel
theorem dX10_runAll_34 : decode cX10_runAll 34 = .ok (.istore_n 2, 1) := by decide +kernel
theorem dX10_runAll_35 : decode cX10_runAll 35 = .ok (.aload_n 0, 1) := by decide +kernel
theorem dX10_runAll_36 : decode cX10_runAll 36 = .ok (.getfield 206, 3) := by decide +kernel
theorem dX10_runAll_39 : decode cX10_runAll 39 = .ok (.iconst 1, 1) := by decide +kernel
theorem dX10_runAll_40 : decode cX10_runAll 40 = .ok (.if_icmp .ne 10, 3) := by decide +kernel
theorem dX10_runAll_43 : decode cX10_runAll 43 = .ok (.aload_n 0, 1) := by decide +kernel
theorem dX10_runAll_44 : decode cX10_runAll 44 = .ok (.getfield 192, 3) := by decide +kernel
theorem dX10_runAll_47 : decode cX10_runAll 47 = .ok (.goto 4, 3) := by decide +kernel
theorem dX10_runAll_50 : decode cX10_runAll 50 = .ok (.lconst 0, 1) := by decide +kernel
theorem dX10_runAll_51 : decode cX10_runAll 51 = .ok (.lstore_n 3, 1) := by decide +kernel
theorem dX10_runAll_52 : decode cX10_runAll 52 = .ok (.lload_n 3, 1) := by decide +kernel
theorem dX10_runAll_53 : decode cX10_runAll 53 = .ok (.invokestatic 301, 3) := by decide +kernel
theorem dX10_runAll_56 : decode cX10_runAll 56 = .ok (.ifCond .ne 11, 3) := by decide +kernel
theorem dX10_runAll_59 : decode cX10_runAll 59 = .ok (.aload_n 0, 1) := by decide +kernel
theorem dX10_runAll_60 : decode cX10_runAll 60 = .ok (.iload_n 2, 1) := by decide +kernel
theorem dX10_runAll_61 : decode cX10_runAll 61 = .ok (.putfield 298, 3) := by decide +kernel
theorem dX10_runAll_64 : decode cX10_runAll 64 = .ok (.goto 53, 3) := by decide +kernel
theorem dX10_runAll_67 : decode cX10_runAll 67 = .ok (.aload_n 0, 1) := by decide +kernel
theorem dX10_runAll_68 : decode cX10_runAll 68 = .ok (.lload_n 3, 1) := by decide +kernel
theorem dX10_runAll_69 : decode cX10_runAll 69 = .ok (.invokevirtual 305, 3) := by decide +kernel
theorem dX10_runAll_72 : decode cX10_runAll 72 = .ok (.ifCond .eq 11, 3) := by decide +kernel
theorem dX10_runAll_75 : decode cX10_runAll 75 = .ok (.aload_n 0, 1) := by decide +kernel
theorem dX10_runAll_76 : decode cX10_runAll 76 = .ok (.getfield 206, 3) := by decide +kernel
theorem dX10_runAll_79 : decode cX10_runAll 79 = .ok (.iconst 3, 1) := by decide +kernel
theorem dX10_runAll_80 : decode cX10_runAll 80 = .ok (.if_icmp .eq 14, 3) := by decide +kernel
theorem dX10_runAll_83 : decode cX10_runAll 83 = .ok (.aload_n 0, 1) := by decide +kernel
theorem dX10_runAll_84 : decode cX10_runAll 84 = .ok (.aload_n 0, 1) := by decide +kernel
theorem dX10_runAll_85 : decode cX10_runAll 85 = .ok (.getfield 215, 3) := by decide +kernel
theorem dX10_runAll_88 : decode cX10_runAll 88 = .ok (.putfield 298, 3) := by decide +kernel
theorem dX10_runAll_91 : decode cX10_runAll 91 = .ok (.goto 26, 3) := by decide +kernel
theorem dX10_runAll_94 : decode cX10_runAll 94 = .ok (.aload_n 0, 1) := by decide +kernel
theorem dX10_runAll_95 : decode cX10_runAll 95 = .ok (.lload_n 3, 1) := by decide +kernel
theorem dX10_runAll_96 : decode cX10_runAll 96 = .ok (.invokevirtual 308, 3) := by decide +kernel
theorem dX10_runAll_99 : decode cX10_runAll 99 = .ok (.ifCond .ge 11, 3) := by decide +kernel
theorem dX10_runAll_102 : decode cX10_runAll 102 = .ok (.aload_n 0, 1) := by decide +kernel
theorem dX10_runAll_103 : decode cX10_runAll 103 = .ok (.iload_n 2, 1) := by decide +kernel
theorem dX10_runAll_104 : decode cX10_runAll 104 = .ok (.putfield 298, 3) := by decide +kernel
theorem dX10_runAll_107 : decode cX10_runAll 107 = .ok (.goto 10, 3) := by decide +kernel
theorem dX10_runAll_110 : decode cX10_runAll 110 = .ok (.iinc 1 1, 3) := by decide +kernel
theorem dX10_runAll_113 : decode cX10_runAll 113 = .ok (.aload_n 0, 1) := by decide +kernel
theorem dX10_runAll_114 : decode cX10_runAll 114 = .ok (.invokevirtual 227, 3) := by decide +kernel
theorem dX10_runAll_117 : decode cX10_runAll 117 = .ok (.goto (-101), 3) := by decide +kernel
theorem dX10_runAll_120 : decode cX10_runAll 120 = .ok (.iload_n 1, 1) := by decide +kernel
theorem dX10_runAll_121 : decode cX10_runAll 121 = .ok (.ireturn, 1) := by decide +kernel
theorem dX10_run_0 : decode cX10_run 0 = .ok (.iconst 0, 1) := by decide +kernel
theorem dX10_run_1 : decode cX10_run 1 = .ok (.istore_n 1, 1) := by decide +kernel
theorem dX10_run_2 : decode cX10_run 2 = .ok (.iload_n 1, 1) := by decide +kernel
theorem dX10_run_3 : decode cX10_run 3 = .ok (.sipush 464, 3) := by decide +kernel
theorem dX10_run_6 : decode cX10_run 6 = .ok (.if_icmp .ge 21, 3) := by decide +kernel
theorem dX10_run_9 : decode cX10_run 9 = .ok (.aload_n 0, 1) := by decide +kernel
theorem dX10_run_10 : decode cX10_run 10 = .ok (.getfield 16, 3) := by decide +kernel
theorem dX10_run_13 : decode cX10_run 13 = .ok (.iload_n 1, 1) := by decide +kernel
theorem dX10_run_14 : decode cX10_run 14 = .ok (.aload_n 0, 1) := by decide +kernel
theorem dX10_run_15 : decode cX10_run 15 = .ok (.getfield 7, 3) := by decide +kernel
theorem dX10_run_18 : decode cX10_run 18 = .ok (.iload_n 1, 1) := by decide +kernel
theorem dX10_run_19 : decode cX10_run 19 = .ok (.iaload, 1) := by decide +kernel
theorem dX10_run_20 : decode cX10_run 20 = .ok (.iastore, 1) := by decide +kernel
theorem dX10_run_21 : decode cX10_run 21 = .ok (.iinc 1 1, 3) := by decide +kernel
theorem dX10_run_24 : decode cX10_run 24 = .ok (.goto (-22), 3) := by decide +kernel
theorem dX10_run_27 : decode cX10_run 27 = .ok (.aload_n 0, 1) := by decide +kernel
theorem dX10_run_28 : decode cX10_run 28 = .ok (.iconst 1, 1) := by decide +kernel
theorem dX10_run_29 : decode cX10_run 29 = .ok (.putfield 65, 3) := by decide +kernel
theorem dX10_run_32 : decode cX10_run 32 = .ok (.aload_n 0, 1) := by decide +kernel
theorem dX10_run_33 : decode cX10_run 33 = .ok (.invokevirtual 312, 3) := by decide +kernel
theorem dX10_run_36 : decode cX10_run 36 = .ok (.istore_n 1, 1) := by decide +kernel
theorem dX10_run_37 : decode cX10_run 37 = .ok (.aload_n 0, 1) := by decide +kernel
theorem dX10_run_38 : decode cX10_run 38 = .ok (.iconst 0, 1) := by decide +kernel
theorem dX10_run_39 : decode cX10_run 39 = .ok (.putfield 65, 3) := by decide +kernel
theorem dX10_run_42 : decode cX10_run 42 = .ok (.aload_n 0, 1) := by decide +kernel
theorem dX10_run_43 : decode cX10_run 43 = .ok (.getfield 298, 3) := by decide +kernel
theorem dX10_run_46 : decode cX10_run 46 = .ok (.ifCond .lt 39, 3) := by decide +kernel
theorem dX10_run_49 : decode cX10_run 49 = .ok (.iconst 0, 1) := by decide +kernel
theorem dX10_run_50 : decode cX10_run 50 = .ok (.istore_n 2, 1) := by decide +kernel
theorem dX10_run_51 : decode cX10_run 51 = .ok (.iload_n 2, 1) := by decide +kernel
theorem dX10_run_52 : decode cX10_run 52 = .ok (.sipush 464, 3) := by decide +kernel
theorem dX10_run_55 : decode cX10_run 55 = .ok (.if_icmp .ge 21, 3) := by decide +kernel
theorem dX10_run_58 : decode cX10_run 58 = .ok (.aload_n 0, 1) := by decide +kernel
theorem dX10_run_59 : decode cX10_run 59 = .ok (.getfield 7, 3) := by decide +kernel
theorem dX10_run_62 : decode cX10_run 62 = .ok (.iload_n 2, 1) := by decide +kernel
theorem dX10_run_63 : decode cX10_run 63 = .ok (.aload_n 0, 1) := by decide +kernel
theorem dX10_run_64 : decode cX10_run 64 = .ok (.getfield 16, 3) := by decide +kernel
theorem dX10_run_67 : decode cX10_run 67 = .ok (.iload_n 2, 1) := by decide +kernel
theorem dX10_run_68 : decode cX10_run 68 = .ok (.iaload, 1) := by decide +kernel
theorem dX10_run_69 : decode cX10_run 69 = .ok (.iastore, 1) := by decide +kernel
theorem dX10_run_70 : decode cX10_run 70 = .ok (.iinc 2 1, 3) := by decide +kernel
theorem dX10_run_73 : decode cX10_run 73 = .ok (.goto (-22), 3) := by decide +kernel
theorem dX10_run_76 : decode cX10_run 76 = .ok (.sipush (-1000), 3) := by decide +kernel
theorem dX10_run_79 : decode cX10_run 79 = .ok (.aload_n 0, 1) := by decide +kernel
theorem dX10_run_80 : decode cX10_run 80 = .ok (.getfield 298, 3) := by decide +kernel
theorem dX10_run_83 : decode cX10_run 83 = .ok (.isub, 1) := by decide +kernel
theorem dX10_run_84 : decode cX10_run 84 = .ok (.ireturn, 1) := by decide +kernel
theorem dX10_run_85 : decode cX10_run 85 = .ok (.iconst 0, 1) := by decide +kernel
theorem dX10_run_86 : decode cX10_run 86 = .ok (.istore_n 2, 1) := by decide +kernel
theorem dX10_run_87 : decode cX10_run 87 = .ok (.iload_n 2, 1) := by decide +kernel
theorem dX10_run_88 : decode cX10_run 88 = .ok (.sipush 464, 3) := by decide +kernel
theorem dX10_run_91 : decode cX10_run 91 = .ok (.if_icmp .ge 35, 3) := by decide +kernel
theorem dX10_run_94 : decode cX10_run 94 = .ok (.aload_n 0, 1) := by decide +kernel
theorem dX10_run_95 : decode cX10_run 95 = .ok (.getfield 7, 3) := by decide +kernel
theorem dX10_run_98 : decode cX10_run 98 = .ok (.iload_n 2, 1) := by decide +kernel
theorem dX10_run_99 : decode cX10_run 99 = .ok (.iaload, 1) := by decide +kernel
theorem dX10_run_100 : decode cX10_run 100 = .ok (.istore_n 3, 1) := by decide +kernel
theorem dX10_run_101 : decode cX10_run 101 = .ok (.aload_n 0, 1) := by decide +kernel
theorem dX10_run_102 : decode cX10_run 102 = .ok (.getfield 7, 3) := by decide +kernel
theorem dX10_run_105 : decode cX10_run 105 = .ok (.iload_n 2, 1) := by decide +kernel
theorem dX10_run_106 : decode cX10_run 106 = .ok (.aload_n 0, 1) := by decide +kernel
theorem dX10_run_107 : decode cX10_run 107 = .ok (.getfield 16, 3) := by decide +kernel
theorem dX10_run_110 : decode cX10_run 110 = .ok (.iload_n 2, 1) := by decide +kernel
theorem dX10_run_111 : decode cX10_run 111 = .ok (.iaload, 1) := by decide +kernel
theorem dX10_run_112 : decode cX10_run 112 = .ok (.iastore, 1) := by decide +kernel
theorem dX10_run_113 : decode cX10_run 113 = .ok (.aload_n 0, 1) := by decide +kernel
theorem dX10_run_114 : decode cX10_run 114 = .ok (.getfield 16, 3) := by decide +kernel
theorem dX10_run_117 : decode cX10_run 117 = .ok (.iload_n 2, 1) := by decide +kernel
theorem dX10_run_118 : decode cX10_run 118 = .ok (.iload_n 3, 1) := by decide +kernel
theorem dX10_run_119 : decode cX10_run 119 = .ok (.iastore, 1) := by decide +kernel
theorem dX10_run_120 : decode cX10_run 120 = .ok (.iinc 2 1, 3) := by decide +kernel
theorem dX10_run_123 : decode cX10_run 123 = .ok (.goto (-36), 3) := by decide +kernel
theorem dX10_run_126 : decode cX10_run 126 = .ok (.aload_n 0, 1) := by decide +kernel
theorem dX10_run_127 : decode cX10_run 127 = .ok (.invokevirtual 69, 3) := by decide +kernel
theorem dX10_run_130 : decode cX10_run 130 = .ok (.iconst 0, 1) := by decide +kernel
theorem dX10_run_131 : decode cX10_run 131 = .ok (.istore_n 2, 1) := by decide +kernel
theorem dX10_run_132 : decode cX10_run 132 = .ok (.iload_n 2, 1) := by decide +kernel
theorem dX10_run_133 : decode cX10_run 133 = .ok (.sipush 464, 3) := by decide +kernel
theorem dX10_run_136 : decode cX10_run 136 = .ok (.if_icmp .ge 21, 3) := by decide +kernel
theorem dX10_run_139 : decode cX10_run 139 = .ok (.aload_n 0, 1) := by decide +kernel
theorem dX10_run_140 : decode cX10_run 140 = .ok (.getfield 7, 3) := by decide +kernel
theorem dX10_run_143 : decode cX10_run 143 = .ok (.iload_n 2, 1) := by decide +kernel
theorem dX10_run_144 : decode cX10_run 144 = .ok (.aload_n 0, 1) := by decide +kernel
theorem dX10_run_145 : decode cX10_run 145 = .ok (.getfield 16, 3) := by decide +kernel
theorem dX10_run_148 : decode cX10_run 148 = .ok (.iload_n 2, 1) := by decide +kernel
theorem dX10_run_149 : decode cX10_run 149 = .ok (.iaload, 1) := by decide +kernel
theorem dX10_run_150 : decode cX10_run 150 = .ok (.iastore, 1) := by decide +kernel
theorem dX10_run_151 : decode cX10_run 151 = .ok (.iinc 2 1, 3) := by decide +kernel
theorem dX10_run_154 : decode cX10_run 154 = .ok (.goto (-22), 3) := by decide +kernel
theorem dX10_run_157 : decode cX10_run 157 = .ok (.aload_n 0, 1) := by decide +kernel
theorem dX10_run_158 : decode cX10_run 158 = .ok (.iconst 0, 1) := by decide +kernel
theorem dX10_run_159 : decode cX10_run 159 = .ok (.putfield 181, 3) := by decide +kernel
theorem dX10_run_162 : decode cX10_run 162 = .ok (.iload_n 1, 1) := by decide +kernel
theorem dX10_run_163 : decode cX10_run 163 = .ok (.ireturn, 1) := by decide +kernel
theorem dX10_foldsNow_0 : decode cX10_foldsNow 0 = .ok (.iconst 0, 1) := by decide +kernel
theorem dX10_foldsNow_1 : decode cX10_foldsNow 1 = .ok (.istore_n 1, 1) := by decide +kernel
theorem dX10_foldsNow_2 : decode cX10_foldsNow 2 = .ok (.iconst 0, 1) := by decide +kernel
theorem dX10_foldsNow_3 : decode cX10_foldsNow 3 = .ok (.istore_n 2, 1) := by decide +kernel
theorem dX10_foldsNow_4 : decode cX10_foldsNow 4 = .ok (.iload_n 2, 1) := by decide +kernel
theorem dX10_foldsNow_5 : decode cX10_foldsNow 5 = .ok (.aload_n 0, 1) := by decide +kernel
theorem dX10_foldsNow_6 : decode cX10_foldsNow 6 = .ok (.getfield 7, 3) := by decide +kernel
theorem dX10_foldsNow_9 : decode cX10_foldsNow 9 = .ok (.iconst 2, 1) := by decide +kernel
theorem dX10_foldsNow_10 : decode cX10_foldsNow 10 = .ok (.iaload, 1) := by decide +kernel
theorem dX10_foldsNow_11 : decode cX10_foldsNow 11 = .ok (.if_icmp .ge 23, 3) := by decide +kernel
theorem dX10_foldsNow_14 : decode cX10_foldsNow 14 = .ok (.bipush 10, 2) := by decide +kernel
theorem dX10_foldsNow_16 : decode cX10_foldsNow 16 = .ok (.iload_n 1, 1) := by decide +kernel
theorem dX10_foldsNow_17 : decode cX10_foldsNow 17 = .ok (.imul, 1) := by decide +kernel
theorem dX10_foldsNow_18 : decode cX10_foldsNow 18 = .ok (.aload_n 0, 1) := by decide +kernel
theorem dX10_foldsNow_19 : decode cX10_foldsNow 19 = .ok (.getfield 7, 3) := by decide +kernel
theorem dX10_foldsNow_22 : decode cX10_foldsNow 22 = .ok (.iconst 3, 1) := by decide +kernel
theorem dX10_foldsNow_23 : decode cX10_foldsNow 23 = .ok (.iload_n 2, 1) := by decide +kernel
theorem dX10_foldsNow_24 : decode cX10_foldsNow 24 = .ok (.iadd, 1) := by decide +kernel
theorem dX10_foldsNow_25 : decode cX10_foldsNow 25 = .ok (.iaload, 1) := by decide +kernel
theorem dX10_foldsNow_26 : decode cX10_foldsNow 26 = .ok (.iadd, 1) := by decide +kernel
theorem dX10_foldsNow_27 : decode cX10_foldsNow 27 = .ok (.istore_n 1, 1) := by decide +kernel
theorem dX10_foldsNow_28 : decode cX10_foldsNow 28 = .ok (.iinc 2 1, 3) := by decide +kernel
theorem dX10_foldsNow_31 : decode cX10_foldsNow 31 = .ok (.goto (-27), 3) := by decide +kernel
theorem dX10_foldsNow_34 : decode cX10_foldsNow 34 = .ok (.iload_n 1, 1) := by decide +kernel
theorem dX10_foldsNow_35 : decode cX10_foldsNow 35 = .ok (.ireturn, 1) := by decide +kernel
theorem dX10_count_0 : decode cX10_count 0 = .ok (.iload_n 1, 1) := by decide +kernel
theorem dX10_count_1 : decode cX10_count 1 = .ok (.tableswitch 214 0 15 #[79, 86, 93, 100, 109, 114, 127, 135, 146, 154, 162, 180, 185, 190, 198, 206], 79) := by decide +kernel
theorem dX10_count_80 : decode cX10_count 80 = .ok (.aload_n 0, 1) := by decide +kernel
theorem dX10_count_81 : decode cX10_count 81 = .ok (.getfield 7, 3) := by decide +kernel
theorem dX10_count_84 : decode cX10_count 84 = .ok (.iconst 0, 1) := by decide +kernel
theorem dX10_count_85 : decode cX10_count 85 = .ok (.iaload, 1) := by decide +kernel
theorem dX10_count_86 : decode cX10_count 86 = .ok (.ireturn, 1) := by decide +kernel
theorem dX10_count_87 : decode cX10_count 87 = .ok (.aload_n 0, 1) := by decide +kernel
theorem dX10_count_88 : decode cX10_count 88 = .ok (.getfield 7, 3) := by decide +kernel
theorem dX10_count_91 : decode cX10_count 91 = .ok (.iconst 1, 1) := by decide +kernel
theorem dX10_count_92 : decode cX10_count 92 = .ok (.iaload, 1) := by decide +kernel
theorem dX10_count_93 : decode cX10_count 93 = .ok (.ireturn, 1) := by decide +kernel
theorem dX10_count_94 : decode cX10_count 94 = .ok (.aload_n 0, 1) := by decide +kernel
theorem dX10_count_95 : decode cX10_count 95 = .ok (.getfield 7, 3) := by decide +kernel
theorem dX10_count_98 : decode cX10_count 98 = .ok (.iconst 2, 1) := by decide +kernel
theorem dX10_count_99 : decode cX10_count 99 = .ok (.iaload, 1) := by decide +kernel
theorem dX10_count_100 : decode cX10_count 100 = .ok (.ireturn, 1) := by decide +kernel
theorem dX10_count_101 : decode cX10_count 101 = .ok (.iconst 1, 1) := by decide +kernel
theorem dX10_count_102 : decode cX10_count 102 = .ok (.aload_n 0, 1) := by decide +kernel
theorem dX10_count_103 : decode cX10_count 103 = .ok (.getfield 7, 3) := by decide +kernel
theorem dX10_count_106 : decode cX10_count 106 = .ok (.iconst 2, 1) := by decide +kernel
theorem dX10_count_107 : decode cX10_count 107 = .ok (.iaload, 1) := by decide +kernel
theorem dX10_count_108 : decode cX10_count 108 = .ok (.ishl, 1) := by decide +kernel
theorem dX10_count_109 : decode cX10_count 109 = .ok (.ireturn, 1) := by decide +kernel
theorem dX10_count_110 : decode cX10_count 110 = .ok (.aload_n 0, 1) := by decide +kernel
theorem dX10_count_111 : decode cX10_count 111 = .ok (.invokevirtual 315, 3) := by decide +kernel
theorem dX10_count_114 : decode cX10_count 114 = .ok (.ireturn, 1) := by decide +kernel
theorem dX10_count_115 : decode cX10_count 115 = .ok (.aload_n 0, 1) := by decide +kernel
theorem dX10_count_116 : decode cX10_count 116 = .ok (.invokevirtual 162, 3) := by decide +kernel
theorem dX10_count_119 : decode cX10_count 119 = .ok (.ifCond .eq 7, 3) := by decide +kernel
theorem dX10_count_122 : decode cX10_count 122 = .ok (.iconst 1, 1) := by decide +kernel
theorem dX10_count_123 : decode cX10_count 123 = .ok (.goto 4, 3) := by decide +kernel
theorem dX10_count_126 : decode cX10_count 126 = .ok (.iconst 0, 1) := by decide +kernel
theorem dX10_count_127 : decode cX10_count 127 = .ok (.ireturn, 1) := by decide +kernel
theorem dX10_count_128 : decode cX10_count 128 = .ok (.aload_n 0, 1) := by decide +kernel
theorem dX10_count_129 : decode cX10_count 129 = .ok (.getfield 7, 3) := by decide +kernel
theorem dX10_count_132 : decode cX10_count 132 = .ok (.bipush 8, 2) := by decide +kernel
theorem dX10_count_134 : decode cX10_count 134 = .ok (.iaload, 1) := by decide +kernel
theorem dX10_count_135 : decode cX10_count 135 = .ok (.ireturn, 1) := by decide +kernel
theorem dX10_count_136 : decode cX10_count 136 = .ok (.aload_n 0, 1) := by decide +kernel
theorem dX10_count_137 : decode cX10_count 137 = .ok (.getfield 7, 3) := by decide +kernel
theorem dX10_count_140 : decode cX10_count 140 = .ok (.bipush 9, 2) := by decide +kernel
theorem dX10_count_142 : decode cX10_count 142 = .ok (.iaload, 1) := by decide +kernel
theorem dX10_count_143 : decode cX10_count 143 = .ok (.invokestatic 170, 3) := by decide +kernel
theorem dX10_count_146 : decode cX10_count 146 = .ok (.ireturn, 1) := by decide +kernel
theorem dX10_count_147 : decode cX10_count 147 = .ok (.aload_n 0, 1) := by decide +kernel
theorem dX10_count_148 : decode cX10_count 148 = .ok (.getfield 7, 3) := by decide +kernel
theorem dX10_count_151 : decode cX10_count 151 = .ok (.bipush 12, 2) := by decide +kernel
theorem dX10_count_153 : decode cX10_count 153 = .ok (.iaload, 1) := by decide +kernel
theorem dX10_count_154 : decode cX10_count 154 = .ok (.ireturn, 1) := by decide +kernel
theorem dX10_count_155 : decode cX10_count 155 = .ok (.aload_n 0, 1) := by decide +kernel
theorem dX10_count_156 : decode cX10_count 156 = .ok (.getfield 7, 3) := by decide +kernel
theorem dX10_count_159 : decode cX10_count 159 = .ok (.bipush 37, 2) := by decide +kernel
theorem dX10_count_161 : decode cX10_count 161 = .ok (.iaload, 1) := by decide +kernel
theorem dX10_count_162 : decode cX10_count 162 = .ok (.ireturn, 1) := by decide +kernel
theorem dX10_count_163 : decode cX10_count 163 = .ok (.aload_n 0, 1) := by decide +kernel
theorem dX10_count_164 : decode cX10_count 164 = .ok (.getfield 7, 3) := by decide +kernel
theorem dX10_count_167 : decode cX10_count 167 = .ok (.sipush 154, 3) := by decide +kernel
theorem dX10_count_170 : decode cX10_count 170 = .ok (.iaload, 1) := by decide +kernel
theorem dX10_count_171 : decode cX10_count 171 = .ok (.aload_n 0, 1) := by decide +kernel
theorem dX10_count_172 : decode cX10_count 172 = .ok (.getfield 7, 3) := by decide +kernel
theorem dX10_count_175 : decode cX10_count 175 = .ok (.sipush 155, 3) := by decide +kernel
theorem dX10_count_178 : decode cX10_count 178 = .ok (.iaload, 1) := by decide +kernel
theorem dX10_count_179 : decode cX10_count 179 = .ok (.iadd, 1) := by decide +kernel
theorem dX10_count_180 : decode cX10_count 180 = .ok (.ireturn, 1) := by decide +kernel
theorem dX10_count_181 : decode cX10_count 181 = .ok (.aload_n 0, 1) := by decide +kernel
theorem dX10_count_182 : decode cX10_count 182 = .ok (.getfield 61, 3) := by decide +kernel
theorem dX10_count_185 : decode cX10_count 185 = .ok (.ireturn, 1) := by decide +kernel
theorem dX10_count_186 : decode cX10_count 186 = .ok (.aload_n 0, 1) := by decide +kernel
theorem dX10_count_187 : decode cX10_count 187 = .ok (.getfield 181, 3) := by decide +kernel
theorem dX10_count_190 : decode cX10_count 190 = .ok (.ireturn, 1) := by decide +kernel
theorem dX10_count_191 : decode cX10_count 191 = .ok (.aload_n 0, 1) := by decide +kernel
theorem dX10_count_192 : decode cX10_count 192 = .ok (.getfield 7, 3) := by decide +kernel
theorem dX10_count_195 : decode cX10_count 195 = .ok (.bipush 11, 2) := by decide +kernel
theorem dX10_count_197 : decode cX10_count 197 = .ok (.iaload, 1) := by decide +kernel
theorem dX10_count_198 : decode cX10_count 198 = .ok (.ireturn, 1) := by decide +kernel
theorem dX10_count_199 : decode cX10_count 199 = .ok (.aload_n 0, 1) := by decide +kernel
theorem dX10_count_200 : decode cX10_count 200 = .ok (.getfield 7, 3) := by decide +kernel
theorem dX10_count_203 : decode cX10_count 203 = .ok (.bipush 10, 2) := by decide +kernel
theorem dX10_count_205 : decode cX10_count 205 = .ok (.iaload, 1) := by decide +kernel
theorem dX10_count_206 : decode cX10_count 206 = .ok (.ireturn, 1) := by decide +kernel
theorem dX10_count_207 : decode cX10_count 207 = .ok (.aload_n 0, 1) := by decide +kernel
theorem dX10_count_208 : decode cX10_count 208 = .ok (.getfield 7, 3) := by decide +kernel
theorem dX10_count_211 : decode cX10_count 211 = .ok (.bipush 7, 2) := by decide +kernel
theorem dX10_count_213 : decode cX10_count 213 = .ok (.iaload, 1) := by decide +kernel
theorem dX10_count_214 : decode cX10_count 214 = .ok (.ireturn, 1) := by decide +kernel
theorem dX10_count_215 : decode cX10_count 215 = .ok (.iconst (-1), 1) := by decide +kernel
theorem dX10_count_216 : decode cX10_count 216 = .ok (.ireturn, 1) := by decide +kernel
theorem dX10_side_0 : decode cX10_side 0 = .ok (.aload_n 0, 1) := by decide +kernel
theorem dX10_side_1 : decode cX10_side 1 = .ok (.iload_n 1, 1) := by decide +kernel
theorem dX10_side_2 : decode cX10_side 2 = .ok (.iload_n 2, 1) := by decide +kernel
theorem dX10_side_3 : decode cX10_side 3 = .ok (.invokevirtual 146, 3) := by decide +kernel
theorem dX10_side_6 : decode cX10_side 6 = .ok (.ifCond .eq 24, 3) := by decide +kernel
theorem dX10_side_9 : decode cX10_side 9 = .ok (.iload_n 3, 1) := by decide +kernel
theorem dX10_side_10 : decode cX10_side 10 = .ok (.i2l, 1) := by decide +kernel
theorem dX10_side_11 : decode cX10_side 11 = .ok (.lconst 0, 1) := by decide +kernel
theorem dX10_side_12 : decode cX10_side 12 = .ok (.lconst 1, 1) := by decide +kernel
theorem dX10_side_13 : decode cX10_side 13 = .ok (.invokestatic 101, 3) := by decide +kernel
theorem dX10_side_16 : decode cX10_side 16 = .ok (.ifCond .eq 14, 3) := by decide +kernel
theorem dX10_side_19 : decode cX10_side 19 = .ok (.iload 4, 2) := by decide +kernel
theorem dX10_side_21 : decode cX10_side 21 = .ok (.i2l, 1) := by decide +kernel
theorem dX10_side_22 : decode cX10_side 22 = .ok (.lconst 0, 1) := by decide +kernel
theorem dX10_side_23 : decode cX10_side 23 = .ok (.lconst 1, 1) := by decide +kernel
theorem dX10_side_24 : decode cX10_side 24 = .ok (.invokestatic 101, 3) := by decide +kernel
theorem dX10_side_27 : decode cX10_side 27 = .ok (.ifCond .ne 5, 3) := by decide +kernel
theorem dX10_side_30 : decode cX10_side 30 = .ok (.iconst (-1), 1) := by decide +kernel
theorem dX10_side_31 : decode cX10_side 31 = .ok (.ireturn, 1) := by decide +kernel
theorem dX10_side_32 : decode cX10_side 32 = .ok (.iconst 2, 1) := by decide +kernel
theorem dX10_side_33 : decode cX10_side 33 = .ok (.aload_n 0, 1) := by decide +kernel
theorem dX10_side_34 : decode cX10_side 34 = .ok (.getfield 7, 3) := by decide +kernel
theorem dX10_side_37 : decode cX10_side 37 = .ok (.iconst 1, 1) := by decide +kernel
theorem dX10_side_38 : decode cX10_side 38 = .ok (.iaload, 1) := by decide +kernel
theorem dX10_side_39 : decode cX10_side 39 = .ok (.iload_n 1, 1) := by decide +kernel
theorem dX10_side_40 : decode cX10_side 40 = .ok (.imul, 1) := by decide +kernel
theorem dX10_side_41 : decode cX10_side 41 = .ok (.iload_n 2, 1) := by decide +kernel
theorem dX10_side_42 : decode cX10_side 42 = .ok (.iadd, 1) := by decide +kernel
theorem dX10_side_43 : decode cX10_side 43 = .ok (.imul, 1) := by decide +kernel
theorem dX10_side_44 : decode cX10_side 44 = .ok (.iload_n 3, 1) := by decide +kernel
theorem dX10_side_45 : decode cX10_side 45 = .ok (.iadd, 1) := by decide +kernel
theorem dX10_side_46 : decode cX10_side 46 = .ok (.istore 5, 2) := by decide +kernel
theorem dX10_side_48 : decode cX10_side 48 = .ok (.iload 4, 2) := by decide +kernel
theorem dX10_side_50 : decode cX10_side 50 = .ok (.iconst 1, 1) := by decide +kernel
theorem dX10_side_51 : decode cX10_side 51 = .ok (.if_icmp .ne 16, 3) := by decide +kernel
theorem dX10_side_54 : decode cX10_side 54 = .ok (.aload_n 0, 1) := by decide +kernel
theorem dX10_side_55 : decode cX10_side 55 = .ok (.getfield 7, 3) := by decide +kernel
theorem dX10_side_58 : decode cX10_side 58 = .ok (.bipush 122, 2) := by decide +kernel
theorem dX10_side_60 : decode cX10_side 60 = .ok (.iload 5, 2) := by decide +kernel
theorem dX10_side_62 : decode cX10_side 62 = .ok (.iadd, 1) := by decide +kernel
theorem dX10_side_63 : decode cX10_side 63 = .ok (.iaload, 1) := by decide +kernel
theorem dX10_side_64 : decode cX10_side 64 = .ok (.goto 31, 3) := by decide +kernel
theorem dX10_side_67 : decode cX10_side 67 = .ok (.aload_n 0, 1) := by decide +kernel
theorem dX10_side_68 : decode cX10_side 68 = .ok (.getfield 7, 3) := by decide +kernel
theorem dX10_side_71 : decode cX10_side 71 = .ok (.bipush 90, 2) := by decide +kernel
theorem dX10_side_73 : decode cX10_side 73 = .ok (.iload 5, 2) := by decide +kernel
theorem dX10_side_75 : decode cX10_side 75 = .ok (.iadd, 1) := by decide +kernel
theorem dX10_side_76 : decode cX10_side 76 = .ok (.iaload, 1) := by decide +kernel
theorem dX10_side_77 : decode cX10_side 77 = .ok (.ifCond .ge 8, 3) := by decide +kernel
theorem dX10_side_80 : decode cX10_side 80 = .ok (.bipush (-9), 2) := by decide +kernel
theorem dX10_side_82 : decode cX10_side 82 = .ok (.goto 13, 3) := by decide +kernel
theorem dX10_side_85 : decode cX10_side 85 = .ok (.aload_n 0, 1) := by decide +kernel
theorem dX10_side_86 : decode cX10_side 86 = .ok (.getfield 7, 3) := by decide +kernel
theorem dX10_side_89 : decode cX10_side 89 = .ok (.bipush 90, 2) := by decide +kernel
theorem dX10_side_91 : decode cX10_side 91 = .ok (.iload 5, 2) := by decide +kernel
theorem dX10_side_93 : decode cX10_side 93 = .ok (.iadd, 1) := by decide +kernel
theorem dX10_side_94 : decode cX10_side 94 = .ok (.iaload, 1) := by decide +kernel
theorem dX10_side_95 : decode cX10_side 95 = .ok (.ireturn, 1) := by decide +kernel
theorem dX10_layer_0 : decode cX10_layer 0 = .ok (.aload_n 0, 1) := by decide +kernel
theorem dX10_layer_1 : decode cX10_layer 1 = .ok (.invokevirtual 92, 3) := by decide +kernel
theorem dX10_layer_4 : decode cX10_layer 4 = .ok (.iload_n 1, 1) := by decide +kernel
theorem dX10_layer_5 : decode cX10_layer 5 = .ok (.i2l, 1) := by decide +kernel
theorem dX10_layer_6 : decode cX10_layer 6 = .ok (.lconst 0, 1) := by decide +kernel
theorem dX10_layer_7 : decode cX10_layer 7 = .ok (.aload_n 0, 1) := by decide +kernel
theorem dX10_layer_8 : decode cX10_layer 8 = .ok (.getfield 72, 3) := by decide +kernel
theorem dX10_layer_11 : decode cX10_layer 11 = .ok (.aload_n 0, 1) := by decide +kernel
theorem dX10_layer_12 : decode cX10_layer 12 = .ok (.getfield 75, 3) := by decide +kernel
theorem dX10_layer_15 : decode cX10_layer 15 = .ok (.imul, 1) := by decide +kernel
theorem dX10_layer_16 : decode cX10_layer 16 = .ok (.iconst 1, 1) := by decide +kernel
theorem dX10_layer_17 : decode cX10_layer 17 = .ok (.isub, 1) := by decide +kernel
theorem dX10_layer_18 : decode cX10_layer 18 = .ok (.i2l, 1) := by decide +kernel
theorem dX10_layer_19 : decode cX10_layer 19 = .ok (.invokestatic 101, 3) := by decide +kernel
theorem dX10_layer_22 : decode cX10_layer 22 = .ok (.ifCond .eq 31, 3) := by decide +kernel
theorem dX10_layer_25 : decode cX10_layer 25 = .ok (.iload_n 2, 1) := by decide +kernel
theorem dX10_layer_26 : decode cX10_layer 26 = .ok (.i2l, 1) := by decide +kernel
theorem dX10_layer_27 : decode cX10_layer 27 = .ok (.lconst 0, 1) := by decide +kernel
theorem dX10_layer_28 : decode cX10_layer 28 = .ok (.aload_n 0, 1) := by decide +kernel
theorem dX10_layer_29 : decode cX10_layer 29 = .ok (.getfield 78, 3) := by decide +kernel
theorem dX10_layer_32 : decode cX10_layer 32 = .ok (.iconst 1, 1) := by decide +kernel
theorem dX10_layer_33 : decode cX10_layer 33 = .ok (.isub, 1) := by decide +kernel
theorem dX10_layer_34 : decode cX10_layer 34 = .ok (.i2l, 1) := by decide +kernel
theorem dX10_layer_35 : decode cX10_layer 35 = .ok (.invokestatic 101, 3) := by decide +kernel
theorem dX10_layer_38 : decode cX10_layer 38 = .ok (.ifCond .eq 15, 3) := by decide +kernel
theorem dX10_layer_41 : decode cX10_layer 41 = .ok (.iload_n 3, 1) := by decide +kernel
theorem dX10_layer_42 : decode cX10_layer 42 = .ok (.i2l, 1) := by decide +kernel
theorem dX10_layer_43 : decode cX10_layer 43 = .ok (.lconst 0, 1) := by decide +kernel
theorem dX10_layer_44 : decode cX10_layer 44 = .ok (.ldc2_w 99, 3) := by decide +kernel
theorem dX10_layer_47 : decode cX10_layer 47 = .ok (.invokestatic 101, 3) := by decide +kernel
theorem dX10_layer_50 : decode cX10_layer 50 = .ok (.ifCond .ne 5, 3) := by decide +kernel
theorem dX10_layer_53 : decode cX10_layer 53 = .ok (.iconst (-1), 1) := by decide +kernel
theorem dX10_layer_54 : decode cX10_layer 54 = .ok (.ireturn, 1) := by decide +kernel
theorem dX10_layer_55 : decode cX10_layer 55 = .ok (.aload_n 0, 1) := by decide +kernel
theorem dX10_layer_56 : decode cX10_layer 56 = .ok (.getfield 78, 3) := by decide +kernel
theorem dX10_layer_59 : decode cX10_layer 59 = .ok (.iload_n 1, 1) := by decide +kernel
theorem dX10_layer_60 : decode cX10_layer 60 = .ok (.imul, 1) := by decide +kernel
theorem dX10_layer_61 : decode cX10_layer 61 = .ok (.iload_n 2, 1) := by decide +kernel
theorem dX10_layer_62 : decode cX10_layer 62 = .ok (.iadd, 1) := by decide +kernel
theorem dX10_layer_63 : decode cX10_layer 63 = .ok (.istore 4, 2) := by decide +kernel
theorem dX10_layer_65 : decode cX10_layer 65 = .ok (.aload_n 0, 1) := by decide +kernel
theorem dX10_layer_66 : decode cX10_layer 66 = .ok (.getfield 22, 3) := by decide +kernel
theorem dX10_layer_69 : decode cX10_layer 69 = .ok (.iload 4, 2) := by decide +kernel
theorem dX10_layer_71 : decode cX10_layer 71 = .ok (.iaload, 1) := by decide +kernel
theorem dX10_layer_72 : decode cX10_layer 72 = .ok (.istore 5, 2) := by decide +kernel
theorem dX10_layer_74 : decode cX10_layer 74 = .ok (.iload_n 3, 1) := by decide +kernel
theorem dX10_layer_75 : decode cX10_layer 75 = .ok (.ifCond .ne 15, 3) := by decide +kernel
theorem dX10_layer_78 : decode cX10_layer 78 = .ok (.iload 5, 2) := by decide +kernel
theorem dX10_layer_80 : decode cX10_layer 80 = .ok (.aload_n 0, 1) := by decide +kernel
theorem dX10_layer_81 : decode cX10_layer 81 = .ok (.getfield 7, 3) := by decide +kernel
theorem dX10_layer_84 : decode cX10_layer 84 = .ok (.iconst 1, 1) := by decide +kernel
theorem dX10_layer_85 : decode cX10_layer 85 = .ok (.iaload, 1) := by decide +kernel
theorem dX10_layer_86 : decode cX10_layer 86 = .ok (.idiv, 1) := by decide +kernel
theorem dX10_layer_87 : decode cX10_layer 87 = .ok (.goto 57, 3) := by decide +kernel
theorem dX10_layer_90 : decode cX10_layer 90 = .ok (.iload_n 3, 1) := by decide +kernel
theorem dX10_layer_91 : decode cX10_layer 91 = .ok (.iconst 1, 1) := by decide +kernel
theorem dX10_layer_92 : decode cX10_layer 92 = .ok (.if_icmp .ne 15, 3) := by decide +kernel
theorem dX10_layer_95 : decode cX10_layer 95 = .ok (.iload 5, 2) := by decide +kernel
theorem dX10_layer_97 : decode cX10_layer 97 = .ok (.aload_n 0, 1) := by decide +kernel
theorem dX10_layer_98 : decode cX10_layer 98 = .ok (.getfield 7, 3) := by decide +kernel
theorem dX10_layer_101 : decode cX10_layer 101 = .ok (.iconst 1, 1) := by decide +kernel
theorem dX10_layer_102 : decode cX10_layer 102 = .ok (.iaload, 1) := by decide +kernel
theorem dX10_layer_103 : decode cX10_layer 103 = .ok (.irem, 1) := by decide +kernel
theorem dX10_layer_104 : decode cX10_layer 104 = .ok (.goto 40, 3) := by decide +kernel
theorem dX10_layer_107 : decode cX10_layer 107 = .ok (.iload_n 3, 1) := by decide +kernel
theorem dX10_layer_108 : decode cX10_layer 108 = .ok (.iconst 2, 1) := by decide +kernel
theorem dX10_layer_109 : decode cX10_layer 109 = .ok (.if_icmp .ne 13, 3) := by decide +kernel
theorem dX10_layer_112 : decode cX10_layer 112 = .ok (.aload_n 0, 1) := by decide +kernel
theorem dX10_layer_113 : decode cX10_layer 113 = .ok (.getfield 25, 3) := by decide +kernel
theorem dX10_layer_116 : decode cX10_layer 116 = .ok (.iload 4, 2) := by decide +kernel
theorem dX10_layer_118 : decode cX10_layer 118 = .ok (.iaload, 1) := by decide +kernel
theorem dX10_layer_119 : decode cX10_layer 119 = .ok (.goto 25, 3) := by decide +kernel
theorem dX10_layer_122 : decode cX10_layer 122 = .ok (.iload_n 3, 1) := by decide +kernel
theorem dX10_layer_123 : decode cX10_layer 123 = .ok (.iconst 3, 1) := by decide +kernel
theorem dX10_layer_124 : decode cX10_layer 124 = .ok (.if_icmp .ne 13, 3) := by decide +kernel
theorem dX10_layer_127 : decode cX10_layer 127 = .ok (.aload_n 0, 1) := by decide +kernel
theorem dX10_layer_128 : decode cX10_layer 128 = .ok (.getfield 31, 3) := by decide +kernel
theorem dX10_layer_131 : decode cX10_layer 131 = .ok (.iload 4, 2) := by decide +kernel
theorem dX10_layer_133 : decode cX10_layer 133 = .ok (.iaload, 1) := by decide +kernel
theorem dX10_layer_134 : decode cX10_layer 134 = .ok (.goto 10, 3) := by decide +kernel
theorem dX10_layer_137 : decode cX10_layer 137 = .ok (.aload_n 0, 1) := by decide +kernel
theorem dX10_layer_138 : decode cX10_layer 138 = .ok (.getfield 28, 3) := by decide +kernel
theorem dX10_layer_141 : decode cX10_layer 141 = .ok (.iload 4, 2) := by decide +kernel
theorem dX10_layer_143 : decode cX10_layer 143 = .ok (.iaload, 1) := by decide +kernel
theorem dX10_layer_144 : decode cX10_layer 144 = .ok (.ireturn, 1) := by decide +kernel
theorem dX10_page_0 : decode cX10_page 0 = .ok (.aload_n 0, 1) := by decide +kernel
theorem dX10_page_1 : decode cX10_page 1 = .ok (.invokevirtual 162, 3) := by decide +kernel
theorem dX10_page_4 : decode cX10_page 4 = .ok (.ifCond .ne 6, 3) := by decide +kernel
theorem dX10_page_7 : decode cX10_page 7 = .ok (.bipush (-2), 2) := by decide +kernel
theorem dX10_page_9 : decode cX10_page 9 = .ok (.ireturn, 1) := by decide +kernel
theorem dX10_page_10 : decode cX10_page 10 = .ok (.iload_n 1, 1) := by decide +kernel
theorem dX10_page_11 : decode cX10_page 11 = .ok (.i2l, 1) := by decide +kernel
theorem dX10_page_12 : decode cX10_page 12 = .ok (.lconst 0, 1) := by decide +kernel
theorem dX10_page_13 : decode cX10_page 13 = .ok (.iconst 2, 1) := by decide +kernel
theorem dX10_page_14 : decode cX10_page 14 = .ok (.aload_n 0, 1) := by decide +kernel
theorem dX10_page_15 : decode cX10_page 15 = .ok (.getfield 78, 3) := by decide +kernel
theorem dX10_page_18 : decode cX10_page 18 = .ok (.imul, 1) := by decide +kernel
theorem dX10_page_19 : decode cX10_page 19 = .ok (.iconst 1, 1) := by decide +kernel
theorem dX10_page_20 : decode cX10_page 20 = .ok (.isub, 1) := by decide +kernel
theorem dX10_page_21 : decode cX10_page 21 = .ok (.i2l, 1) := by decide +kernel
theorem dX10_page_22 : decode cX10_page 22 = .ok (.invokestatic 101, 3) := by decide +kernel
theorem dX10_page_25 : decode cX10_page 25 = .ok (.ifCond .eq 15, 3) := by decide +kernel
theorem dX10_page_28 : decode cX10_page 28 = .ok (.iload_n 2, 1) := by decide +kernel
theorem dX10_page_29 : decode cX10_page 29 = .ok (.i2l, 1) := by decide +kernel
theorem dX10_page_30 : decode cX10_page 30 = .ok (.lconst 0, 1) := by decide +kernel
theorem dX10_page_31 : decode cX10_page 31 = .ok (.ldc2_w 318, 3) := by decide +kernel
theorem dX10_page_34 : decode cX10_page 34 = .ok (.invokestatic 101, 3) := by decide +kernel
theorem dX10_page_37 : decode cX10_page 37 = .ok (.ifCond .ne 5, 3) := by decide +kernel
theorem dX10_page_40 : decode cX10_page 40 = .ok (.iconst (-1), 1) := by decide +kernel
theorem dX10_page_41 : decode cX10_page 41 = .ok (.ireturn, 1) := by decide +kernel
theorem dX10_page_42 : decode cX10_page 42 = .ok (.aload_n 0, 1) := by decide +kernel
theorem dX10_page_43 : decode cX10_page 43 = .ok (.iload_n 1, 1) := by decide +kernel
theorem dX10_page_44 : decode cX10_page 44 = .ok (.invokevirtual 113, 3) := by decide +kernel
theorem dX10_page_47 : decode cX10_page 47 = .ok (.istore_n 3, 1) := by decide +kernel
theorem dX10_page_48 : decode cX10_page 48 = .ok (.aload_n 0, 1) := by decide +kernel
theorem dX10_page_49 : decode cX10_page 49 = .ok (.getfield 7, 3) := by decide +kernel
theorem dX10_page_52 : decode cX10_page 52 = .ok (.bipush 90, 2) := by decide +kernel
theorem dX10_page_54 : decode cX10_page 54 = .ok (.iload_n 3, 1) := by decide +kernel
theorem dX10_page_55 : decode cX10_page 55 = .ok (.iadd, 1) := by decide +kernel
theorem dX10_page_56 : decode cX10_page 56 = .ok (.iaload, 1) := by decide +kernel
theorem dX10_page_57 : decode cX10_page 57 = .ok (.ifCond .ge 7, 3) := by decide +kernel
theorem dX10_page_60 : decode cX10_page 60 = .ok (.iconst 1, 1) := by decide +kernel
theorem dX10_page_61 : decode cX10_page 61 = .ok (.goto 4, 3) := by decide +kernel
theorem dX10_page_64 : decode cX10_page 64 = .ok (.iconst 0, 1) := by decide +kernel
theorem dX10_page_65 : decode cX10_page 65 = .ok (.istore 4, 2) := by decide +kernel
theorem dX10_page_67 : decode cX10_page 67 = .ok (.iload_n 2, 1) := by decide +kernel
theorem dX10_page_68 : decode cX10_page 68 = .ok (.tableswitch 150 0 6 #[44, 55, 66, 70, 90, 114, 128], 44) := by decide +kernel
theorem dX10_page_112 : decode cX10_page 112 = .ok (.iload_n 3, 1) := by decide +kernel
theorem dX10_page_113 : decode cX10_page 113 = .ok (.iconst 2, 1) := by decide +kernel
theorem dX10_page_114 : decode cX10_page 114 = .ok (.idiv, 1) := by decide +kernel
theorem dX10_page_115 : decode cX10_page 115 = .ok (.aload_n 0, 1) := by decide +kernel
theorem dX10_page_116 : decode cX10_page 116 = .ok (.getfield 7, 3) := by decide +kernel
theorem dX10_page_119 : decode cX10_page 119 = .ok (.iconst 1, 1) := by decide +kernel
theorem dX10_page_120 : decode cX10_page 120 = .ok (.iaload, 1) := by decide +kernel
theorem dX10_page_121 : decode cX10_page 121 = .ok (.idiv, 1) := by decide +kernel
theorem dX10_page_122 : decode cX10_page 122 = .ok (.ireturn, 1) := by decide +kernel
theorem dX10_page_123 : decode cX10_page 123 = .ok (.iload_n 3, 1) := by decide +kernel
theorem dX10_page_124 : decode cX10_page 124 = .ok (.iconst 2, 1) := by decide +kernel
theorem dX10_page_125 : decode cX10_page 125 = .ok (.idiv, 1) := by decide +kernel
theorem dX10_page_126 : decode cX10_page 126 = .ok (.aload_n 0, 1) := by decide +kernel
theorem dX10_page_127 : decode cX10_page 127 = .ok (.getfield 7, 3) := by decide +kernel
theorem dX10_page_130 : decode cX10_page 130 = .ok (.iconst 1, 1) := by decide +kernel
theorem dX10_page_131 : decode cX10_page 131 = .ok (.iaload, 1) := by decide +kernel
theorem dX10_page_132 : decode cX10_page 132 = .ok (.irem, 1) := by decide +kernel
theorem dX10_page_133 : decode cX10_page 133 = .ok (.ireturn, 1) := by decide +kernel
theorem dX10_page_134 : decode cX10_page 134 = .ok (.iload_n 3, 1) := by decide +kernel
theorem dX10_page_135 : decode cX10_page 135 = .ok (.iconst 2, 1) := by decide +kernel
theorem dX10_page_136 : decode cX10_page 136 = .ok (.irem, 1) := by decide +kernel
theorem dX10_page_137 : decode cX10_page 137 = .ok (.ireturn, 1) := by decide +kernel
theorem dX10_page_138 : decode cX10_page 138 = .ok (.iload 4, 2) := by decide +kernel
theorem dX10_page_140 : decode cX10_page 140 = .ok (.ifCond .eq 8, 3) := by decide +kernel
theorem dX10_page_143 : decode cX10_page 143 = .ok (.bipush (-9), 2) := by decide +kernel
theorem dX10_page_145 : decode cX10_page 145 = .ok (.goto 12, 3) := by decide +kernel
theorem dX10_page_148 : decode cX10_page 148 = .ok (.aload_n 0, 1) := by decide +kernel
theorem dX10_page_149 : decode cX10_page 149 = .ok (.getfield 7, 3) := by decide +kernel
theorem dX10_page_152 : decode cX10_page 152 = .ok (.bipush 90, 2) := by decide +kernel
theorem dX10_page_154 : decode cX10_page 154 = .ok (.iload_n 3, 1) := by decide +kernel
theorem dX10_page_155 : decode cX10_page 155 = .ok (.iadd, 1) := by decide +kernel
theorem dX10_page_156 : decode cX10_page 156 = .ok (.iaload, 1) := by decide +kernel
theorem dX10_page_157 : decode cX10_page 157 = .ok (.ireturn, 1) := by decide +kernel
theorem dX10_page_158 : decode cX10_page 158 = .ok (.iload 4, 2) := by decide +kernel
theorem dX10_page_160 : decode cX10_page 160 = .ok (.ifCond .eq 8, 3) := by decide +kernel
theorem dX10_page_163 : decode cX10_page 163 = .ok (.bipush (-9), 2) := by decide +kernel
theorem dX10_page_165 : decode cX10_page 165 = .ok (.goto 16, 3) := by decide +kernel
theorem dX10_page_168 : decode cX10_page 168 = .ok (.aload_n 0, 1) := by decide +kernel
theorem dX10_page_169 : decode cX10_page 169 = .ok (.iload_n 1, 1) := by decide +kernel
theorem dX10_page_170 : decode cX10_page 170 = .ok (.invokevirtual 133, 3) := by decide +kernel
theorem dX10_page_173 : decode cX10_page 173 = .ok (.ifCond .eq 7, 3) := by decide +kernel
theorem dX10_page_176 : decode cX10_page 176 = .ok (.iconst 1, 1) := by decide +kernel
theorem dX10_page_177 : decode cX10_page 177 = .ok (.goto 4, 3) := by decide +kernel
theorem dX10_page_180 : decode cX10_page 180 = .ok (.iconst 0, 1) := by decide +kernel
theorem dX10_page_181 : decode cX10_page 181 = .ok (.ireturn, 1) := by decide +kernel
theorem dX10_page_182 : decode cX10_page 182 = .ok (.aload_n 0, 1) := by decide +kernel
theorem dX10_page_183 : decode cX10_page 183 = .ok (.iload_n 1, 1) := by decide +kernel
theorem dX10_page_184 : decode cX10_page 184 = .ok (.invokevirtual 320, 3) := by decide +kernel
theorem dX10_page_187 : decode cX10_page 187 = .ok (.ifCond .eq 7, 3) := by decide +kernel
theorem dX10_page_190 : decode cX10_page 190 = .ok (.iconst 1, 1) := by decide +kernel
theorem dX10_page_191 : decode cX10_page 191 = .ok (.goto 4, 3) := by decide +kernel
theorem dX10_page_194 : decode cX10_page 194 = .ok (.iconst 0, 1) := by decide +kernel
theorem dX10_page_195 : decode cX10_page 195 = .ok (.ireturn, 1) := by decide +kernel
theorem dX10_page_196 : decode cX10_page 196 = .ok (.aload_n 0, 1) := by decide +kernel
theorem dX10_page_197 : decode cX10_page 197 = .ok (.iload_n 1, 1) := by decide +kernel
theorem dX10_page_198 : decode cX10_page 198 = .ok (.invokevirtual 320, 3) := by decide +kernel
theorem dX10_page_201 : decode cX10_page 201 = .ok (.ifCond .ne 15, 3) := by decide +kernel
theorem dX10_page_204 : decode cX10_page 204 = .ok (.aload_n 0, 1) := by decide +kernel
theorem dX10_page_205 : decode cX10_page 205 = .ok (.iload_n 1, 1) := by decide +kernel
theorem dX10_page_206 : decode cX10_page 206 = .ok (.invokevirtual 323, 3) := by decide +kernel
theorem dX10_page_209 : decode cX10_page 209 = .ok (.ifCond .eq 7, 3) := by decide +kernel
theorem dX10_page_212 : decode cX10_page 212 = .ok (.iconst 1, 1) := by decide +kernel
theorem dX10_page_213 : decode cX10_page 213 = .ok (.goto 4, 3) := by decide +kernel
theorem dX10_page_216 : decode cX10_page 216 = .ok (.iconst 0, 1) := by decide +kernel
theorem dX10_page_217 : decode cX10_page 217 = .ok (.ireturn, 1) := by decide +kernel
theorem dX10_page_218 : decode cX10_page 218 = .ok (.aload_n 0, 1) := by decide +kernel
theorem dX10_page_219 : decode cX10_page 219 = .ok (.iload_n 1, 1) := by decide +kernel
theorem dX10_page_220 : decode cX10_page 220 = .ok (.invokevirtual 326, 3) := by decide +kernel
theorem dX10_page_223 : decode cX10_page 223 = .ok (.ireturn, 1) := by decide +kernel
theorem dX10_opening_0 : decode cX10_opening 0 = .ok (.aload_n 0, 1) := by decide +kernel
theorem dX10_opening_1 : decode cX10_opening 1 = .ok (.invokevirtual 162, 3) := by decide +kernel
theorem dX10_opening_4 : decode cX10_opening 4 = .ok (.ifCond .ne 6, 3) := by decide +kernel
theorem dX10_opening_7 : decode cX10_opening 7 = .ok (.bipush (-2), 2) := by decide +kernel
theorem dX10_opening_9 : decode cX10_opening 9 = .ok (.ireturn, 1) := by decide +kernel
theorem dX10_opening_10 : decode cX10_opening 10 = .ok (.iload_n 1, 1) := by decide +kernel
theorem dX10_opening_11 : decode cX10_opening 11 = .ok (.i2l, 1) := by decide +kernel
theorem dX10_opening_12 : decode cX10_opening 12 = .ok (.lconst 0, 1) := by decide +kernel
theorem dX10_opening_13 : decode cX10_opening 13 = .ok (.aload_n 0, 1) := by decide +kernel
theorem dX10_opening_14 : decode cX10_opening 14 = .ok (.getfield 78, 3) := by decide +kernel
theorem dX10_opening_17 : decode cX10_opening 17 = .ok (.i2l, 1) := by decide +kernel
theorem dX10_opening_18 : decode cX10_opening 18 = .ok (.invokestatic 101, 3) := by decide +kernel
theorem dX10_opening_21 : decode cX10_opening 21 = .ok (.ifCond .eq 15, 3) := by decide +kernel
theorem dX10_opening_24 : decode cX10_opening 24 = .ok (.iload_n 2, 1) := by decide +kernel
theorem dX10_opening_25 : decode cX10_opening 25 = .ok (.i2l, 1) := by decide +kernel
theorem dX10_opening_26 : decode cX10_opening 26 = .ok (.lconst 0, 1) := by decide +kernel
theorem dX10_opening_27 : decode cX10_opening 27 = .ok (.ldc2_w 329, 3) := by decide +kernel
theorem dX10_opening_30 : decode cX10_opening 30 = .ok (.invokestatic 101, 3) := by decide +kernel
theorem dX10_opening_33 : decode cX10_opening 33 = .ok (.ifCond .ne 5, 3) := by decide +kernel
theorem dX10_opening_36 : decode cX10_opening 36 = .ok (.iconst (-1), 1) := by decide +kernel
theorem dX10_opening_37 : decode cX10_opening 37 = .ok (.ireturn, 1) := by decide +kernel
theorem dX10_opening_38 : decode cX10_opening 38 = .ok (.aload_n 0, 1) := by decide +kernel
theorem dX10_opening_39 : decode cX10_opening 39 = .ok (.iload_n 1, 1) := by decide +kernel
theorem dX10_opening_40 : decode cX10_opening 40 = .ok (.aload_n 0, 1) := by decide +kernel
theorem dX10_opening_41 : decode cX10_opening 41 = .ok (.getfield 7, 3) := by decide +kernel
theorem dX10_opening_44 : decode cX10_opening 44 = .ok (.bipush 8, 2) := by decide +kernel
theorem dX10_opening_46 : decode cX10_opening 46 = .ok (.iaload, 1) := by decide +kernel
theorem dX10_opening_47 : decode cX10_opening 47 = .ok (.invokevirtual 127, 3) := by decide +kernel
theorem dX10_opening_50 : decode cX10_opening 50 = .ok (.istore_n 3, 1) := by decide +kernel
theorem dX10_opening_51 : decode cX10_opening 51 = .ok (.iload_n 1, 1) := by decide +kernel
theorem dX10_opening_52 : decode cX10_opening 52 = .ok (.ifCond .eq 11, 3) := by decide +kernel
theorem dX10_opening_55 : decode cX10_opening 55 = .ok (.iload_n 1, 1) := by decide +kernel
theorem dX10_opening_56 : decode cX10_opening 56 = .ok (.aload_n 0, 1) := by decide +kernel
theorem dX10_opening_57 : decode cX10_opening 57 = .ok (.getfield 78, 3) := by decide +kernel
theorem dX10_opening_60 : decode cX10_opening 60 = .ok (.if_icmp .ne 7, 3) := by decide +kernel
theorem dX10_opening_63 : decode cX10_opening 63 = .ok (.iconst 1, 1) := by decide +kernel
theorem dX10_opening_64 : decode cX10_opening 64 = .ok (.goto 4, 3) := by decide +kernel
theorem dX10_opening_67 : decode cX10_opening 67 = .ok (.iconst 2, 1) := by decide +kernel
theorem dX10_opening_68 : decode cX10_opening 68 = .ok (.istore 4, 2) := by decide +kernel
theorem dX10_opening_70 : decode cX10_opening 70 = .ok (.iload_n 2, 1) := by decide +kernel
theorem dX10_opening_71 : decode cX10_opening 71 = .ok (.ifCond .ne 15, 3) := by decide +kernel
theorem dX10_opening_74 : decode cX10_opening 74 = .ok (.iload_n 3, 1) := by decide +kernel
theorem dX10_opening_75 : decode cX10_opening 75 = .ok (.ifCond .ne 7, 3) := by decide +kernel
theorem dX10_opening_78 : decode cX10_opening 78 = .ok (.iconst 0, 1) := by decide +kernel
theorem dX10_opening_79 : decode cX10_opening 79 = .ok (.goto 34, 3) := by decide +kernel
theorem dX10_opening_82 : decode cX10_opening 82 = .ok (.iconst 1, 1) := by decide +kernel
theorem dX10_opening_83 : decode cX10_opening 83 = .ok (.goto 30, 3) := by decide +kernel
theorem dX10_opening_86 : decode cX10_opening 86 = .ok (.iload_n 2, 1) := by decide +kernel
theorem dX10_opening_87 : decode cX10_opening 87 = .ok (.iconst 1, 1) := by decide +kernel
theorem dX10_opening_88 : decode cX10_opening 88 = .ok (.if_icmp .ne 7, 3) := by decide +kernel
theorem dX10_opening_91 : decode cX10_opening 91 = .ok (.iload_n 3, 1) := by decide +kernel
theorem dX10_opening_92 : decode cX10_opening 92 = .ok (.goto 21, 3) := by decide +kernel
theorem dX10_opening_95 : decode cX10_opening 95 = .ok (.iload_n 3, 1) := by decide +kernel
theorem dX10_opening_96 : decode cX10_opening 96 = .ok (.ifCond .ne 16, 3) := by decide +kernel
theorem dX10_opening_99 : decode cX10_opening 99 = .ok (.iload 4, 2) := by decide +kernel
theorem dX10_opening_101 : decode cX10_opening 101 = .ok (.aload_n 0, 1) := by decide +kernel
theorem dX10_opening_102 : decode cX10_opening 102 = .ok (.getfield 7, 3) := by decide +kernel
theorem dX10_opening_105 : decode cX10_opening 105 = .ok (.bipush 11, 2) := by decide +kernel
theorem dX10_opening_107 : decode cX10_opening 107 = .ok (.iaload, 1) := by decide +kernel
theorem dX10_opening_108 : decode cX10_opening 108 = .ok (.imul, 1) := by decide +kernel
theorem dX10_opening_109 : decode cX10_opening 109 = .ok (.goto 4, 3) := by decide +kernel
theorem dX10_opening_112 : decode cX10_opening 112 = .ok (.iconst 0, 1) := by decide +kernel
theorem dX10_opening_113 : decode cX10_opening 113 = .ok (.ireturn, 1) := by decide +kernel
theorem dX10_hanging_0 : decode cX10_hanging 0 = .ok (.aload_n 0, 1) := by decide +kernel
theorem dX10_hanging_1 : decode cX10_hanging 1 = .ok (.invokevirtual 162, 3) := by decide +kernel
theorem dX10_hanging_4 : decode cX10_hanging 4 = .ok (.ifCond .ne 6, 3) := by decide +kernel
theorem dX10_hanging_7 : decode cX10_hanging 7 = .ok (.bipush (-2), 2) := by decide +kernel
theorem dX10_hanging_9 : decode cX10_hanging 9 = .ok (.ireturn, 1) := by decide +kernel
theorem dX10_hanging_10 : decode cX10_hanging 10 = .ok (.iload_n 1, 1) := by decide +kernel
theorem dX10_hanging_11 : decode cX10_hanging 11 = .ok (.i2l, 1) := by decide +kernel
theorem dX10_hanging_12 : decode cX10_hanging 12 = .ok (.lconst 0, 1) := by decide +kernel
theorem dX10_hanging_13 : decode cX10_hanging 13 = .ok (.ldc2_w 160, 3) := by decide +kernel
theorem dX10_hanging_16 : decode cX10_hanging 16 = .ok (.invokestatic 101, 3) := by decide +kernel
theorem dX10_hanging_19 : decode cX10_hanging 19 = .ok (.ifCond .ne 7, 3) := by decide +kernel
theorem dX10_hanging_22 : decode cX10_hanging 22 = .ok (.iconst (-1), 1) := by decide +kernel
theorem dX10_hanging_23 : decode cX10_hanging 23 = .ok (.goto 26, 3) := by decide +kernel
theorem dX10_hanging_26 : decode cX10_hanging 26 = .ok (.aload_n 0, 1) := by decide +kernel
theorem dX10_hanging_27 : decode cX10_hanging 27 = .ok (.getfield 7, 3) := by decide +kernel
theorem dX10_hanging_30 : decode cX10_hanging 30 = .ok (.bipush 8, 2) := by decide +kernel
theorem dX10_hanging_32 : decode cX10_hanging 32 = .ok (.iaload, 1) := by decide +kernel
theorem dX10_hanging_33 : decode cX10_hanging 33 = .ok (.iload_n 1, 1) := by decide +kernel
theorem dX10_hanging_34 : decode cX10_hanging 34 = .ok (.invokestatic 120, 3) := by decide +kernel
theorem dX10_hanging_37 : decode cX10_hanging 37 = .ok (.ifCond .eq 7, 3) := by decide +kernel
theorem dX10_hanging_40 : decode cX10_hanging 40 = .ok (.iconst 0, 1) := by decide +kernel
theorem dX10_hanging_41 : decode cX10_hanging 41 = .ok (.goto 8, 3) := by decide +kernel
theorem dX10_hanging_44 : decode cX10_hanging 44 = .ok (.aload_n 0, 1) := by decide +kernel
theorem dX10_hanging_45 : decode cX10_hanging 45 = .ok (.iload_n 1, 1) := by decide +kernel
theorem dX10_hanging_46 : decode cX10_hanging 46 = .ok (.invokevirtual 165, 3) := by decide +kernel
theorem dX10_hanging_49 : decode cX10_hanging 49 = .ok (.ireturn, 1) := by decide +kernel
theorem dX10_together_0 : decode cX10_together 0 = .ok (.aload_n 0, 1) := by decide +kernel
theorem dX10_together_1 : decode cX10_together 1 = .ok (.invokevirtual 162, 3) := by decide +kernel
theorem dX10_together_4 : decode cX10_together 4 = .ok (.ifCond .ne 6, 3) := by decide +kernel
theorem dX10_together_7 : decode cX10_together 7 = .ok (.bipush (-2), 2) := by decide +kernel
theorem dX10_together_9 : decode cX10_together 9 = .ok (.ireturn, 1) := by decide +kernel
theorem dX10_together_10 : decode cX10_together 10 = .ok (.iload_n 1, 1) := by decide +kernel
theorem dX10_together_11 : decode cX10_together 11 = .ok (.i2l, 1) := by decide +kernel
theorem dX10_together_12 : decode cX10_together 12 = .ok (.lconst 0, 1) := by decide +kernel
theorem dX10_together_13 : decode cX10_together 13 = .ok (.aload_n 0, 1) := by decide +kernel
theorem dX10_together_14 : decode cX10_together 14 = .ok (.getfield 78, 3) := by decide +kernel
theorem dX10_together_17 : decode cX10_together 17 = .ok (.iconst 1, 1) := by decide +kernel
theorem dX10_together_18 : decode cX10_together 18 = .ok (.isub, 1) := by decide +kernel
theorem dX10_together_19 : decode cX10_together 19 = .ok (.i2l, 1) := by decide +kernel
theorem dX10_together_20 : decode cX10_together 20 = .ok (.invokestatic 101, 3) := by decide +kernel
theorem dX10_together_23 : decode cX10_together 23 = .ok (.ifCond .eq 24, 3) := by decide +kernel
theorem dX10_together_26 : decode cX10_together 26 = .ok (.iload_n 2, 1) := by decide +kernel
theorem dX10_together_27 : decode cX10_together 27 = .ok (.i2l, 1) := by decide +kernel
theorem dX10_together_28 : decode cX10_together 28 = .ok (.lconst 0, 1) := by decide +kernel
theorem dX10_together_29 : decode cX10_together 29 = .ok (.aload_n 0, 1) := by decide +kernel
theorem dX10_together_30 : decode cX10_together 30 = .ok (.getfield 78, 3) := by decide +kernel
theorem dX10_together_33 : decode cX10_together 33 = .ok (.iconst 1, 1) := by decide +kernel
theorem dX10_together_34 : decode cX10_together 34 = .ok (.isub, 1) := by decide +kernel
theorem dX10_together_35 : decode cX10_together 35 = .ok (.i2l, 1) := by decide +kernel
theorem dX10_together_36 : decode cX10_together 36 = .ok (.invokestatic 101, 3) := by decide +kernel
theorem dX10_together_39 : decode cX10_together 39 = .ok (.ifCond .eq 8, 3) := by decide +kernel
theorem dX10_together_42 : decode cX10_together 42 = .ok (.iload_n 1, 1) := by decide +kernel
theorem dX10_together_43 : decode cX10_together 43 = .ok (.iload_n 2, 1) := by decide +kernel
theorem dX10_together_44 : decode cX10_together 44 = .ok (.if_icmp .ne 5, 3) := by decide +kernel
theorem dX10_together_47 : decode cX10_together 47 = .ok (.iconst (-1), 1) := by decide +kernel
theorem dX10_together_48 : decode cX10_together 48 = .ok (.ireturn, 1) := by decide +kernel
theorem dX10_together_49 : decode cX10_together 49 = .ok (.aload_n 0, 1) := by decide +kernel
theorem dX10_together_50 : decode cX10_together 50 = .ok (.iload_n 1, 1) := by decide +kernel
theorem dX10_together_51 : decode cX10_together 51 = .ok (.iload_n 2, 1) := by decide +kernel
theorem dX10_together_52 : decode cX10_together 52 = .ok (.invokevirtual 116, 3) := by decide +kernel
theorem dX10_together_55 : decode cX10_together 55 = .ok (.istore_n 3, 1) := by decide +kernel
theorem dX10_together_56 : decode cX10_together 56 = .ok (.iload_n 3, 1) := by decide +kernel
theorem dX10_together_57 : decode cX10_together 57 = .ok (.ifCond .lt 17, 3) := by decide +kernel
theorem dX10_together_60 : decode cX10_together 60 = .ok (.aload_n 0, 1) := by decide +kernel
theorem dX10_together_61 : decode cX10_together 61 = .ok (.getfield 7, 3) := by decide +kernel
theorem dX10_together_64 : decode cX10_together 64 = .ok (.bipush 8, 2) := by decide +kernel
theorem dX10_together_66 : decode cX10_together 66 = .ok (.iaload, 1) := by decide +kernel
theorem dX10_together_67 : decode cX10_together 67 = .ok (.iload_n 3, 1) := by decide +kernel
theorem dX10_together_68 : decode cX10_together 68 = .ok (.invokestatic 120, 3) := by decide +kernel
theorem dX10_together_71 : decode cX10_together 71 = .ok (.ifCond .eq 7, 3) := by decide +kernel
theorem dX10_together_74 : decode cX10_together 74 = .ok (.iconst 0, 1) := by decide +kernel
theorem dX10_together_75 : decode cX10_together 75 = .ok (.goto 6, 3) := by decide +kernel
theorem dX10_together_78 : decode cX10_together 78 = .ok (.iconst 1, 1) := by decide +kernel
theorem dX10_together_79 : decode cX10_together 79 = .ok (.iload_n 3, 1) := by decide +kernel
theorem dX10_together_80 : decode cX10_together 80 = .ok (.ishl, 1) := by decide +kernel
theorem dX10_together_81 : decode cX10_together 81 = .ok (.ireturn, 1) := by decide +kernel
theorem dX10_pieces_0 : decode cX10_pieces 0 = .ok (.aload_n 0, 1) := by decide +kernel
theorem dX10_pieces_1 : decode cX10_pieces 1 = .ok (.invokevirtual 162, 3) := by decide +kernel
theorem dX10_pieces_4 : decode cX10_pieces 4 = .ok (.ifCond .ne 6, 3) := by decide +kernel
theorem dX10_pieces_7 : decode cX10_pieces 7 = .ok (.bipush (-2), 2) := by decide +kernel
theorem dX10_pieces_9 : decode cX10_pieces 9 = .ok (.ireturn, 1) := by decide +kernel
theorem dX10_pieces_10 : decode cX10_pieces 10 = .ok (.aload_n 0, 1) := by decide +kernel
theorem dX10_pieces_11 : decode cX10_pieces 11 = .ok (.getfield 7, 3) := by decide +kernel
theorem dX10_pieces_14 : decode cX10_pieces 14 = .ok (.bipush 9, 2) := by decide +kernel
theorem dX10_pieces_16 : decode cX10_pieces 16 = .ok (.iaload, 1) := by decide +kernel
theorem dX10_pieces_17 : decode cX10_pieces 17 = .ok (.ifCond .ne 7, 3) := by decide +kernel
theorem dX10_pieces_20 : decode cX10_pieces 20 = .ok (.iconst 1, 1) := by decide +kernel
theorem dX10_pieces_21 : decode cX10_pieces 21 = .ok (.goto 10, 3) := by decide +kernel
theorem dX10_pieces_24 : decode cX10_pieces 24 = .ok (.aload_n 0, 1) := by decide +kernel
theorem dX10_pieces_25 : decode cX10_pieces 25 = .ok (.getfield 7, 3) := by decide +kernel
theorem dX10_pieces_28 : decode cX10_pieces 28 = .ok (.bipush 10, 2) := by decide +kernel
theorem dX10_pieces_30 : decode cX10_pieces 30 = .ok (.iaload, 1) := by decide +kernel
theorem dX10_pieces_31 : decode cX10_pieces 31 = .ok (.istore_n 1, 1) := by decide +kernel
theorem dX10_pieces_32 : decode cX10_pieces 32 = .ok (.iconst 0, 1) := by decide +kernel
theorem dX10_pieces_33 : decode cX10_pieces 33 = .ok (.istore_n 2, 1) := by decide +kernel
theorem dX10_pieces_34 : decode cX10_pieces 34 = .ok (.iload_n 2, 1) := by decide +kernel
theorem dX10_pieces_35 : decode cX10_pieces 35 = .ok (.aload_n 0, 1) := by decide +kernel
theorem dX10_pieces_36 : decode cX10_pieces 36 = .ok (.getfield 78, 3) := by decide +kernel
theorem dX10_pieces_39 : decode cX10_pieces 39 = .ok (.if_icmp .ge 25, 3) := by decide +kernel
theorem dX10_pieces_42 : decode cX10_pieces 42 = .ok (.aload_n 0, 1) := by decide +kernel
theorem dX10_pieces_43 : decode cX10_pieces 43 = .ok (.getfield 49, 3) := by decide +kernel
theorem dX10_pieces_46 : decode cX10_pieces 46 = .ok (.iload_n 2, 1) := by decide +kernel
theorem dX10_pieces_47 : decode cX10_pieces 47 = .ok (.iload_n 2, 1) := by decide +kernel
theorem dX10_pieces_48 : decode cX10_pieces 48 = .ok (.iload_n 1, 1) := by decide +kernel
theorem dX10_pieces_49 : decode cX10_pieces 49 = .ok (.if_icmp .ge 7, 3) := by decide +kernel
theorem dX10_pieces_52 : decode cX10_pieces 52 = .ok (.iconst 0, 1) := by decide +kernel
theorem dX10_pieces_53 : decode cX10_pieces 53 = .ok (.goto 4, 3) := by decide +kernel
theorem dX10_pieces_56 : decode cX10_pieces 56 = .ok (.iload_n 2, 1) := by decide +kernel
theorem dX10_pieces_57 : decode cX10_pieces 57 = .ok (.iastore, 1) := by decide +kernel
theorem dX10_pieces_58 : decode cX10_pieces 58 = .ok (.iinc 2 1, 3) := by decide +kernel
theorem dX10_pieces_61 : decode cX10_pieces 61 = .ok (.goto (-27), 3) := by decide +kernel
theorem dX10_pieces_64 : decode cX10_pieces 64 = .ok (.iconst 0, 1) := by decide +kernel
theorem dX10_pieces_65 : decode cX10_pieces 65 = .ok (.istore_n 2, 1) := by decide +kernel
theorem dX10_pieces_66 : decode cX10_pieces 66 = .ok (.iconst 0, 1) := by decide +kernel
theorem dX10_pieces_67 : decode cX10_pieces 67 = .ok (.istore_n 3, 1) := by decide +kernel
theorem dX10_pieces_68 : decode cX10_pieces 68 = .ok (.iload_n 3, 1) := by decide +kernel
theorem dX10_pieces_69 : decode cX10_pieces 69 = .ok (.aload_n 0, 1) := by decide +kernel
theorem dX10_pieces_70 : decode cX10_pieces 70 = .ok (.getfield 78, 3) := by decide +kernel
theorem dX10_pieces_73 : decode cX10_pieces 73 = .ok (.if_icmp .ge 75, 3) := by decide +kernel
theorem dX10_pieces_76 : decode cX10_pieces 76 = .ok (.iload_n 3, 1) := by decide +kernel
theorem dX10_pieces_77 : decode cX10_pieces 77 = .ok (.iconst 1, 1) := by decide +kernel
theorem dX10_pieces_78 : decode cX10_pieces 78 = .ok (.iadd, 1) := by decide +kernel
theorem dX10_pieces_79 : decode cX10_pieces 79 = .ok (.istore 4, 2) := by decide +kernel
theorem dX10_pieces_81 : decode cX10_pieces 81 = .ok (.iload 4, 2) := by decide +kernel
theorem dX10_pieces_83 : decode cX10_pieces 83 = .ok (.aload_n 0, 1) := by decide +kernel
theorem dX10_pieces_84 : decode cX10_pieces 84 = .ok (.getfield 78, 3) := by decide +kernel
theorem dX10_pieces_87 : decode cX10_pieces 87 = .ok (.if_icmp .ge 55, 3) := by decide +kernel
theorem dX10_pieces_90 : decode cX10_pieces 90 = .ok (.aload_n 0, 1) := by decide +kernel
theorem dX10_pieces_91 : decode cX10_pieces 91 = .ok (.iload_n 3, 1) := by decide +kernel
theorem dX10_pieces_92 : decode cX10_pieces 92 = .ok (.iload 4, 2) := by decide +kernel
theorem dX10_pieces_94 : decode cX10_pieces 94 = .ok (.invokevirtual 116, 3) := by decide +kernel
theorem dX10_pieces_97 : decode cX10_pieces 97 = .ok (.istore 5, 2) := by decide +kernel
theorem dX10_pieces_99 : decode cX10_pieces 99 = .ok (.iload 5, 2) := by decide +kernel
theorem dX10_pieces_101 : decode cX10_pieces 101 = .ok (.ifCond .lt 35, 3) := by decide +kernel
theorem dX10_pieces_104 : decode cX10_pieces 104 = .ok (.aload_n 0, 1) := by decide +kernel
theorem dX10_pieces_105 : decode cX10_pieces 105 = .ok (.getfield 7, 3) := by decide +kernel
theorem dX10_pieces_108 : decode cX10_pieces 108 = .ok (.bipush 8, 2) := by decide +kernel
theorem dX10_pieces_110 : decode cX10_pieces 110 = .ok (.iaload, 1) := by decide +kernel
theorem dX10_pieces_111 : decode cX10_pieces 111 = .ok (.iload 5, 2) := by decide +kernel
theorem dX10_pieces_113 : decode cX10_pieces 113 = .ok (.invokestatic 120, 3) := by decide +kernel
theorem dX10_pieces_116 : decode cX10_pieces 116 = .ok (.ifCond .ne 20, 3) := by decide +kernel
theorem dX10_pieces_119 : decode cX10_pieces 119 = .ok (.aload_n 0, 1) := by decide +kernel
theorem dX10_pieces_120 : decode cX10_pieces 120 = .ok (.aload_n 0, 1) := by decide +kernel
theorem dX10_pieces_121 : decode cX10_pieces 121 = .ok (.getfield 49, 3) := by decide +kernel
theorem dX10_pieces_124 : decode cX10_pieces 124 = .ok (.iload_n 3, 1) := by decide +kernel
theorem dX10_pieces_125 : decode cX10_pieces 125 = .ok (.iaload, 1) := by decide +kernel
theorem dX10_pieces_126 : decode cX10_pieces 126 = .ok (.aload_n 0, 1) := by decide +kernel
theorem dX10_pieces_127 : decode cX10_pieces 127 = .ok (.getfield 49, 3) := by decide +kernel
theorem dX10_pieces_130 : decode cX10_pieces 130 = .ok (.iload 4, 2) := by decide +kernel
theorem dX10_pieces_132 : decode cX10_pieces 132 = .ok (.iaload, 1) := by decide +kernel
theorem dX10_pieces_133 : decode cX10_pieces 133 = .ok (.invokevirtual 331, 3) := by decide +kernel
theorem dX10_pieces_136 : decode cX10_pieces 136 = .ok (.iinc 4 1, 3) := by decide +kernel
theorem dX10_pieces_139 : decode cX10_pieces 139 = .ok (.goto (-58), 3) := by decide +kernel
theorem dX10_pieces_142 : decode cX10_pieces 142 = .ok (.iinc 3 1, 3) := by decide +kernel
theorem dX10_pieces_145 : decode cX10_pieces 145 = .ok (.goto (-77), 3) := by decide +kernel
theorem dX10_pieces_148 : decode cX10_pieces 148 = .ok (.iconst 0, 1) := by decide +kernel
theorem dX10_pieces_149 : decode cX10_pieces 149 = .ok (.istore_n 3, 1) := by decide +kernel
theorem dX10_pieces_150 : decode cX10_pieces 150 = .ok (.iconst 0, 1) := by decide +kernel
theorem dX10_pieces_151 : decode cX10_pieces 151 = .ok (.istore 4, 2) := by decide +kernel
theorem dX10_pieces_153 : decode cX10_pieces 153 = .ok (.iload 4, 2) := by decide +kernel
theorem dX10_pieces_155 : decode cX10_pieces 155 = .ok (.aload_n 0, 1) := by decide +kernel
theorem dX10_pieces_156 : decode cX10_pieces 156 = .ok (.getfield 78, 3) := by decide +kernel
theorem dX10_pieces_159 : decode cX10_pieces 159 = .ok (.if_icmp .ge 21, 3) := by decide +kernel
theorem dX10_pieces_162 : decode cX10_pieces 162 = .ok (.iload_n 3, 1) := by decide +kernel
theorem dX10_pieces_163 : decode cX10_pieces 163 = .ok (.iconst 1, 1) := by decide +kernel
theorem dX10_pieces_164 : decode cX10_pieces 164 = .ok (.aload_n 0, 1) := by decide +kernel
theorem dX10_pieces_165 : decode cX10_pieces 165 = .ok (.getfield 49, 3) := by decide +kernel
theorem dX10_pieces_168 : decode cX10_pieces 168 = .ok (.iload 4, 2) := by decide +kernel
theorem dX10_pieces_170 : decode cX10_pieces 170 = .ok (.iaload, 1) := by decide +kernel
theorem dX10_pieces_171 : decode cX10_pieces 171 = .ok (.ishl, 1) := by decide +kernel
theorem dX10_pieces_172 : decode cX10_pieces 172 = .ok (.ior, 1) := by decide +kernel
theorem dX10_pieces_173 : decode cX10_pieces 173 = .ok (.istore_n 3, 1) := by decide +kernel
theorem dX10_pieces_174 : decode cX10_pieces 174 = .ok (.iinc 4 1, 3) := by decide +kernel
theorem dX10_pieces_177 : decode cX10_pieces 177 = .ok (.goto (-24), 3) := by decide +kernel
theorem dX10_pieces_180 : decode cX10_pieces 180 = .ok (.iload_n 2, 1) := by decide +kernel
theorem dX10_pieces_181 : decode cX10_pieces 181 = .ok (.iload_n 3, 1) := by decide +kernel
theorem dX10_pieces_182 : decode cX10_pieces 182 = .ok (.invokestatic 170, 3) := by decide +kernel
theorem dX10_pieces_185 : decode cX10_pieces 185 = .ok (.iadd, 1) := by decide +kernel
theorem dX10_pieces_186 : decode cX10_pieces 186 = .ok (.ireturn, 1) := by decide +kernel
theorem dX10_joins_0 : decode cX10_joins 0 = .ok (.iconst 0, 1) := by decide +kernel
theorem dX10_joins_1 : decode cX10_joins 1 = .ok (.istore_n 3, 1) := by decide +kernel
theorem dX10_joins_2 : decode cX10_joins 2 = .ok (.iload_n 3, 1) := by decide +kernel
theorem dX10_joins_3 : decode cX10_joins 3 = .ok (.aload_n 0, 1) := by decide +kernel
theorem dX10_joins_4 : decode cX10_joins 4 = .ok (.getfield 78, 3) := by decide +kernel
theorem dX10_joins_7 : decode cX10_joins 7 = .ok (.if_icmp .ge 35, 3) := by decide +kernel
theorem dX10_joins_10 : decode cX10_joins 10 = .ok (.aload_n 0, 1) := by decide +kernel
theorem dX10_joins_11 : decode cX10_joins 11 = .ok (.getfield 49, 3) := by decide +kernel
theorem dX10_joins_14 : decode cX10_joins 14 = .ok (.iload_n 3, 1) := by decide +kernel
theorem dX10_joins_15 : decode cX10_joins 15 = .ok (.aload_n 0, 1) := by decide +kernel
theorem dX10_joins_16 : decode cX10_joins 16 = .ok (.getfield 49, 3) := by decide +kernel
theorem dX10_joins_19 : decode cX10_joins 19 = .ok (.iload_n 3, 1) := by decide +kernel
theorem dX10_joins_20 : decode cX10_joins 20 = .ok (.iaload, 1) := by decide +kernel
theorem dX10_joins_21 : decode cX10_joins 21 = .ok (.iload_n 2, 1) := by decide +kernel
theorem dX10_joins_22 : decode cX10_joins 22 = .ok (.if_icmp .ne 7, 3) := by decide +kernel
theorem dX10_joins_25 : decode cX10_joins 25 = .ok (.iload_n 1, 1) := by decide +kernel
theorem dX10_joins_26 : decode cX10_joins 26 = .ok (.goto 9, 3) := by decide +kernel
theorem dX10_joins_29 : decode cX10_joins 29 = .ok (.aload_n 0, 1) := by decide +kernel
theorem dX10_joins_30 : decode cX10_joins 30 = .ok (.getfield 49, 3) := by decide +kernel
theorem dX10_joins_33 : decode cX10_joins 33 = .ok (.iload_n 3, 1) := by decide +kernel
theorem dX10_joins_34 : decode cX10_joins 34 = .ok (.iaload, 1) := by decide +kernel
theorem dX10_joins_35 : decode cX10_joins 35 = .ok (.iastore, 1) := by decide +kernel
theorem dX10_joins_36 : decode cX10_joins 36 = .ok (.iinc 3 1, 3) := by decide +kernel
theorem dX10_joins_39 : decode cX10_joins 39 = .ok (.goto (-37), 3) := by decide +kernel
theorem dX10_joins_42 : decode cX10_joins 42 = .ok (.return_, 1) := by decide +kernel
theorem dX10_reading_0 : decode cX10_reading 0 = .ok (.aload_n 0, 1) := by decide +kernel
theorem dX10_reading_1 : decode cX10_reading 1 = .ok (.invokevirtual 162, 3) := by decide +kernel
theorem dX10_reading_4 : decode cX10_reading 4 = .ok (.ifCond .ne 6, 3) := by decide +kernel
theorem dX10_reading_7 : decode cX10_reading 7 = .ok (.bipush (-2), 2) := by decide +kernel
theorem dX10_reading_9 : decode cX10_reading 9 = .ok (.ireturn, 1) := by decide +kernel
theorem dX10_reading_10 : decode cX10_reading 10 = .ok (.iload_n 1, 1) := by decide +kernel
theorem dX10_reading_11 : decode cX10_reading 11 = .ok (.i2l, 1) := by decide +kernel
theorem dX10_reading_12 : decode cX10_reading 12 = .ok (.lconst 0, 1) := by decide +kernel
theorem dX10_reading_13 : decode cX10_reading 13 = .ok (.ldc2_w 329, 3) := by decide +kernel
theorem dX10_reading_16 : decode cX10_reading 16 = .ok (.invokestatic 101, 3) := by decide +kernel
theorem dX10_reading_19 : decode cX10_reading 19 = .ok (.ifCond .ne 5, 3) := by decide +kernel
theorem dX10_reading_22 : decode cX10_reading 22 = .ok (.iconst (-1), 1) := by decide +kernel
theorem dX10_reading_23 : decode cX10_reading 23 = .ok (.ireturn, 1) := by decide +kernel
theorem dX10_reading_24 : decode cX10_reading 24 = .ok (.iconst 0, 1) := by decide +kernel
theorem dX10_reading_25 : decode cX10_reading 25 = .ok (.istore_n 2, 1) := by decide +kernel
theorem dX10_reading_26 : decode cX10_reading 26 = .ok (.iload_n 2, 1) := by decide +kernel
theorem dX10_reading_27 : decode cX10_reading 27 = .ok (.iconst 2, 1) := by decide +kernel
theorem dX10_reading_28 : decode cX10_reading 28 = .ok (.aload_n 0, 1) := by decide +kernel
theorem dX10_reading_29 : decode cX10_reading 29 = .ok (.getfield 78, 3) := by decide +kernel
theorem dX10_reading_32 : decode cX10_reading 32 = .ok (.imul, 1) := by decide +kernel
theorem dX10_reading_33 : decode cX10_reading 33 = .ok (.if_icmp .ge 25, 3) := by decide +kernel
theorem dX10_reading_36 : decode cX10_reading 36 = .ok (.aload_n 0, 1) := by decide +kernel
theorem dX10_reading_37 : decode cX10_reading 37 = .ok (.iload_n 2, 1) := by decide +kernel
theorem dX10_reading_38 : decode cX10_reading 38 = .ok (.invokevirtual 320, 3) := by decide +kernel
theorem dX10_reading_41 : decode cX10_reading 41 = .ok (.ifCond .ne 17, 3) := by decide +kernel
theorem dX10_reading_44 : decode cX10_reading 44 = .ok (.aload_n 0, 1) := by decide +kernel
theorem dX10_reading_45 : decode cX10_reading 45 = .ok (.iload_n 2, 1) := by decide +kernel
theorem dX10_reading_46 : decode cX10_reading 46 = .ok (.invokevirtual 323, 3) := by decide +kernel
theorem dX10_reading_49 : decode cX10_reading 49 = .ok (.ifCond .eq 9, 3) := by decide +kernel
theorem dX10_reading_52 : decode cX10_reading 52 = .ok (.iinc 2 1, 3) := by decide +kernel
theorem dX10_reading_55 : decode cX10_reading 55 = .ok (.goto (-29), 3) := by decide +kernel
theorem dX10_reading_58 : decode cX10_reading 58 = .ok (.iload_n 1, 1) := by decide +kernel
theorem dX10_reading_59 : decode cX10_reading 59 = .ok (.ifCond .ne 5, 3) := by decide +kernel
theorem dX10_reading_62 : decode cX10_reading 62 = .ok (.iload_n 2, 1) := by decide +kernel
theorem dX10_reading_63 : decode cX10_reading 63 = .ok (.ireturn, 1) := by decide +kernel
theorem dX10_reading_64 : decode cX10_reading 64 = .ok (.iload_n 2, 1) := by decide +kernel
theorem dX10_reading_65 : decode cX10_reading 65 = .ok (.iconst 2, 1) := by decide +kernel
theorem dX10_reading_66 : decode cX10_reading 66 = .ok (.aload_n 0, 1) := by decide +kernel
theorem dX10_reading_67 : decode cX10_reading 67 = .ok (.getfield 78, 3) := by decide +kernel
theorem dX10_reading_70 : decode cX10_reading 70 = .ok (.imul, 1) := by decide +kernel
theorem dX10_reading_71 : decode cX10_reading 71 = .ok (.if_icmp .ne 6, 3) := by decide +kernel
theorem dX10_reading_74 : decode cX10_reading 74 = .ok (.bipush (-9), 2) := by decide +kernel
theorem dX10_reading_76 : decode cX10_reading 76 = .ok (.ireturn, 1) := by decide +kernel
theorem dX10_reading_77 : decode cX10_reading 77 = .ok (.iload_n 1, 1) := by decide +kernel
theorem dX10_reading_78 : decode cX10_reading 78 = .ok (.iconst 1, 1) := by decide +kernel
theorem dX10_reading_79 : decode cX10_reading 79 = .ok (.if_icmp .ne 7, 3) := by decide +kernel
theorem dX10_reading_82 : decode cX10_reading 82 = .ok (.iload_n 2, 1) := by decide +kernel
theorem dX10_reading_83 : decode cX10_reading 83 = .ok (.goto 41, 3) := by decide +kernel
theorem dX10_reading_86 : decode cX10_reading 86 = .ok (.aload_n 0, 1) := by decide +kernel
theorem dX10_reading_87 : decode cX10_reading 87 = .ok (.iload_n 2, 1) := by decide +kernel
theorem dX10_reading_88 : decode cX10_reading 88 = .ok (.invokevirtual 320, 3) := by decide +kernel
theorem dX10_reading_91 : decode cX10_reading 91 = .ok (.ifCond .eq 7, 3) := by decide +kernel
theorem dX10_reading_94 : decode cX10_reading 94 = .ok (.iconst 1, 1) := by decide +kernel
theorem dX10_reading_95 : decode cX10_reading 95 = .ok (.goto 29, 3) := by decide +kernel
theorem dX10_reading_98 : decode cX10_reading 98 = .ok (.aload_n 0, 1) := by decide +kernel
theorem dX10_reading_99 : decode cX10_reading 99 = .ok (.iload_n 2, 1) := by decide +kernel
theorem dX10_reading_100 : decode cX10_reading 100 = .ok (.invokevirtual 130, 3) := by decide +kernel
theorem dX10_reading_103 : decode cX10_reading 103 = .ok (.ifCond .ge 7, 3) := by decide +kernel
theorem dX10_reading_106 : decode cX10_reading 106 = .ok (.iconst 2, 1) := by decide +kernel
theorem dX10_reading_107 : decode cX10_reading 107 = .ok (.goto 17, 3) := by decide +kernel
theorem dX10_reading_110 : decode cX10_reading 110 = .ok (.aload_n 0, 1) := by decide +kernel
theorem dX10_reading_111 : decode cX10_reading 111 = .ok (.iload_n 2, 1) := by decide +kernel
theorem dX10_reading_112 : decode cX10_reading 112 = .ok (.invokevirtual 130, 3) := by decide +kernel
theorem dX10_reading_115 : decode cX10_reading 115 = .ok (.iload_n 2, 1) := by decide +kernel
theorem dX10_reading_116 : decode cX10_reading 116 = .ok (.if_icmp .eq 7, 3) := by decide +kernel
theorem dX10_reading_119 : decode cX10_reading 119 = .ok (.iconst 3, 1) := by decide +kernel
theorem dX10_reading_120 : decode cX10_reading 120 = .ok (.goto 4, 3) := by decide +kernel
theorem dX10_reading_123 : decode cX10_reading 123 = .ok (.iconst 4, 1) := by decide +kernel
theorem dX10_reading_124 : decode cX10_reading 124 = .ok (.ireturn, 1) := by decide +kernel
theorem dX10_pageOf_0 : decode cX10_pageOf 0 = .ok (.aload_n 0, 1) := by decide +kernel
theorem dX10_pageOf_1 : decode cX10_pageOf 1 = .ok (.invokevirtual 162, 3) := by decide +kernel
theorem dX10_pageOf_4 : decode cX10_pageOf 4 = .ok (.ifCond .ne 6, 3) := by decide +kernel
theorem dX10_pageOf_7 : decode cX10_pageOf 7 = .ok (.bipush (-2), 2) := by decide +kernel
theorem dX10_pageOf_9 : decode cX10_pageOf 9 = .ok (.ireturn, 1) := by decide +kernel
theorem dX10_pageOf_10 : decode cX10_pageOf 10 = .ok (.iload_n 1, 1) := by decide +kernel
theorem dX10_pageOf_11 : decode cX10_pageOf 11 = .ok (.i2l, 1) := by decide +kernel
theorem dX10_pageOf_12 : decode cX10_pageOf 12 = .ok (.lconst 0, 1) := by decide +kernel
theorem dX10_pageOf_13 : decode cX10_pageOf 13 = .ok (.ldc2_w 151, 3) := by decide +kernel
theorem dX10_pageOf_16 : decode cX10_pageOf 16 = .ok (.invokestatic 101, 3) := by decide +kernel
theorem dX10_pageOf_19 : decode cX10_pageOf 19 = .ok (.ifCond .ne 5, 3) := by decide +kernel
theorem dX10_pageOf_22 : decode cX10_pageOf 22 = .ok (.iconst (-1), 1) := by decide +kernel
theorem dX10_pageOf_23 : decode cX10_pageOf 23 = .ok (.ireturn, 1) := by decide +kernel
theorem dX10_pageOf_24 : decode cX10_pageOf 24 = .ok (.iconst 0, 1) := by decide +kernel
theorem dX10_pageOf_25 : decode cX10_pageOf 25 = .ok (.istore_n 2, 1) := by decide +kernel
theorem dX10_pageOf_26 : decode cX10_pageOf 26 = .ok (.iload_n 2, 1) := by decide +kernel
theorem dX10_pageOf_27 : decode cX10_pageOf 27 = .ok (.iconst 2, 1) := by decide +kernel
theorem dX10_pageOf_28 : decode cX10_pageOf 28 = .ok (.aload_n 0, 1) := by decide +kernel
theorem dX10_pageOf_29 : decode cX10_pageOf 29 = .ok (.getfield 78, 3) := by decide +kernel
theorem dX10_pageOf_32 : decode cX10_pageOf 32 = .ok (.imul, 1) := by decide +kernel
theorem dX10_pageOf_33 : decode cX10_pageOf 33 = .ok (.if_icmp .ge 20, 3) := by decide +kernel
theorem dX10_pageOf_36 : decode cX10_pageOf 36 = .ok (.aload_n 0, 1) := by decide +kernel
theorem dX10_pageOf_37 : decode cX10_pageOf 37 = .ok (.iload_n 2, 1) := by decide +kernel
theorem dX10_pageOf_38 : decode cX10_pageOf 38 = .ok (.invokevirtual 130, 3) := by decide +kernel
theorem dX10_pageOf_41 : decode cX10_pageOf 41 = .ok (.iload_n 1, 1) := by decide +kernel
theorem dX10_pageOf_42 : decode cX10_pageOf 42 = .ok (.if_icmp .ne 5, 3) := by decide +kernel
theorem dX10_pageOf_45 : decode cX10_pageOf 45 = .ok (.iload_n 2, 1) := by decide +kernel
theorem dX10_pageOf_46 : decode cX10_pageOf 46 = .ok (.ireturn, 1) := by decide +kernel
theorem dX10_pageOf_47 : decode cX10_pageOf 47 = .ok (.iinc 2 1, 3) := by decide +kernel
theorem dX10_pageOf_50 : decode cX10_pageOf 50 = .ok (.goto (-24), 3) := by decide +kernel
theorem dX10_pageOf_53 : decode cX10_pageOf 53 = .ok (.bipush (-9), 2) := by decide +kernel
theorem dX10_pageOf_55 : decode cX10_pageOf 55 = .ok (.ireturn, 1) := by decide +kernel
theorem dX10_openingOf_0 : decode cX10_openingOf 0 = .ok (.aload_n 0, 1) := by decide +kernel
theorem dX10_openingOf_1 : decode cX10_openingOf 1 = .ok (.getfield 52, 3) := by decide +kernel
theorem dX10_openingOf_4 : decode cX10_openingOf 4 = .ok (.iload_n 1, 1) := by decide +kernel
theorem dX10_openingOf_5 : decode cX10_openingOf 5 = .ok (.aload_n 0, 1) := by decide +kernel
theorem dX10_openingOf_6 : decode cX10_openingOf 6 = .ok (.getfield 7, 3) := by decide +kernel
theorem dX10_openingOf_9 : decode cX10_openingOf 9 = .ok (.bipush 11, 2) := by decide +kernel
theorem dX10_openingOf_11 : decode cX10_openingOf 11 = .ok (.iaload, 1) := by decide +kernel
theorem dX10_openingOf_12 : decode cX10_openingOf 12 = .ok (.idiv, 1) := by decide +kernel
theorem dX10_openingOf_13 : decode cX10_openingOf 13 = .ok (.iaload, 1) := by decide +kernel
theorem dX10_openingOf_14 : decode cX10_openingOf 14 = .ok (.iconst 1, 1) := by decide +kernel
theorem dX10_openingOf_15 : decode cX10_openingOf 15 = .ok (.iadd, 1) := by decide +kernel
theorem dX10_openingOf_16 : decode cX10_openingOf 16 = .ok (.iconst 2, 1) := by decide +kernel
theorem dX10_openingOf_17 : decode cX10_openingOf 17 = .ok (.idiv, 1) := by decide +kernel
theorem dX10_openingOf_18 : decode cX10_openingOf 18 = .ok (.ireturn, 1) := by decide +kernel
theorem dX10_comesAhead_0 : decode cX10_comesAhead 0 = .ok (.bipush 38, 2) := by decide +kernel
theorem dX10_comesAhead_2 : decode cX10_comesAhead 2 = .ok (.iconst 4, 1) := by decide +kernel
theorem dX10_comesAhead_3 : decode cX10_comesAhead 3 = .ok (.iload_n 1, 1) := by decide +kernel
theorem dX10_comesAhead_4 : decode cX10_comesAhead 4 = .ok (.imul, 1) := by decide +kernel
theorem dX10_comesAhead_5 : decode cX10_comesAhead 5 = .ok (.iadd, 1) := by decide +kernel
theorem dX10_comesAhead_6 : decode cX10_comesAhead 6 = .ok (.istore_n 3, 1) := by decide +kernel
theorem dX10_comesAhead_7 : decode cX10_comesAhead 7 = .ok (.bipush 38, 2) := by decide +kernel
theorem dX10_comesAhead_9 : decode cX10_comesAhead 9 = .ok (.iconst 4, 1) := by decide +kernel
theorem dX10_comesAhead_10 : decode cX10_comesAhead 10 = .ok (.iload_n 2, 1) := by decide +kernel
theorem dX10_comesAhead_11 : decode cX10_comesAhead 11 = .ok (.imul, 1) := by decide +kernel
theorem dX10_comesAhead_12 : decode cX10_comesAhead 12 = .ok (.iadd, 1) := by decide +kernel
theorem dX10_comesAhead_13 : decode cX10_comesAhead 13 = .ok (.istore 4, 2) := by decide +kernel
theorem dX10_comesAhead_15 : decode cX10_comesAhead 15 = .ok (.aload_n 0, 1) := by decide +kernel
theorem dX10_comesAhead_16 : decode cX10_comesAhead 16 = .ok (.getfield 7, 3) := by decide +kernel
theorem dX10_comesAhead_19 : decode cX10_comesAhead 19 = .ok (.iload_n 3, 1) := by decide +kernel
theorem dX10_comesAhead_20 : decode cX10_comesAhead 20 = .ok (.iconst 1, 1) := by decide +kernel
theorem dX10_comesAhead_21 : decode cX10_comesAhead 21 = .ok (.iadd, 1) := by decide +kernel
theorem dX10_comesAhead_22 : decode cX10_comesAhead 22 = .ok (.iaload, 1) := by decide +kernel
theorem dX10_comesAhead_23 : decode cX10_comesAhead 23 = .ok (.aload_n 0, 1) := by decide +kernel
theorem dX10_comesAhead_24 : decode cX10_comesAhead 24 = .ok (.getfield 7, 3) := by decide +kernel
theorem dX10_comesAhead_27 : decode cX10_comesAhead 27 = .ok (.iload 4, 2) := by decide +kernel
theorem dX10_comesAhead_29 : decode cX10_comesAhead 29 = .ok (.iconst 1, 1) := by decide +kernel
theorem dX10_comesAhead_30 : decode cX10_comesAhead 30 = .ok (.iadd, 1) := by decide +kernel
theorem dX10_comesAhead_31 : decode cX10_comesAhead 31 = .ok (.iaload, 1) := by decide +kernel
theorem dX10_comesAhead_32 : decode cX10_comesAhead 32 = .ok (.if_icmp .eq 31, 3) := by decide +kernel
theorem dX10_comesAhead_35 : decode cX10_comesAhead 35 = .ok (.aload_n 0, 1) := by decide +kernel
theorem dX10_comesAhead_36 : decode cX10_comesAhead 36 = .ok (.getfield 7, 3) := by decide +kernel
theorem dX10_comesAhead_39 : decode cX10_comesAhead 39 = .ok (.iload_n 3, 1) := by decide +kernel
theorem dX10_comesAhead_40 : decode cX10_comesAhead 40 = .ok (.iconst 1, 1) := by decide +kernel
theorem dX10_comesAhead_41 : decode cX10_comesAhead 41 = .ok (.iadd, 1) := by decide +kernel
theorem dX10_comesAhead_42 : decode cX10_comesAhead 42 = .ok (.iaload, 1) := by decide +kernel
theorem dX10_comesAhead_43 : decode cX10_comesAhead 43 = .ok (.aload_n 0, 1) := by decide +kernel
theorem dX10_comesAhead_44 : decode cX10_comesAhead 44 = .ok (.getfield 7, 3) := by decide +kernel
theorem dX10_comesAhead_47 : decode cX10_comesAhead 47 = .ok (.iload 4, 2) := by decide +kernel
theorem dX10_comesAhead_49 : decode cX10_comesAhead 49 = .ok (.iconst 1, 1) := by decide +kernel
theorem dX10_comesAhead_50 : decode cX10_comesAhead 50 = .ok (.iadd, 1) := by decide +kernel
theorem dX10_comesAhead_51 : decode cX10_comesAhead 51 = .ok (.iaload, 1) := by decide +kernel
theorem dX10_comesAhead_52 : decode cX10_comesAhead 52 = .ok (.if_icmp .le 7, 3) := by decide +kernel
theorem dX10_comesAhead_55 : decode cX10_comesAhead 55 = .ok (.iconst 1, 1) := by decide +kernel
theorem dX10_comesAhead_56 : decode cX10_comesAhead 56 = .ok (.goto 57, 3) := by decide +kernel
theorem dX10_comesAhead_59 : decode cX10_comesAhead 59 = .ok (.iconst 0, 1) := by decide +kernel
theorem dX10_comesAhead_60 : decode cX10_comesAhead 60 = .ok (.goto 53, 3) := by decide +kernel
theorem dX10_comesAhead_63 : decode cX10_comesAhead 63 = .ok (.aload_n 0, 1) := by decide +kernel
theorem dX10_comesAhead_64 : decode cX10_comesAhead 64 = .ok (.getfield 7, 3) := by decide +kernel
theorem dX10_comesAhead_67 : decode cX10_comesAhead 67 = .ok (.iload_n 3, 1) := by decide +kernel
theorem dX10_comesAhead_68 : decode cX10_comesAhead 68 = .ok (.iaload, 1) := by decide +kernel
theorem dX10_comesAhead_69 : decode cX10_comesAhead 69 = .ok (.aload_n 0, 1) := by decide +kernel
theorem dX10_comesAhead_70 : decode cX10_comesAhead 70 = .ok (.getfield 7, 3) := by decide +kernel
theorem dX10_comesAhead_73 : decode cX10_comesAhead 73 = .ok (.iload 4, 2) := by decide +kernel
theorem dX10_comesAhead_75 : decode cX10_comesAhead 75 = .ok (.iaload, 1) := by decide +kernel
theorem dX10_comesAhead_76 : decode cX10_comesAhead 76 = .ok (.if_icmp .eq 27, 3) := by decide +kernel
theorem dX10_comesAhead_79 : decode cX10_comesAhead 79 = .ok (.aload_n 0, 1) := by decide +kernel
theorem dX10_comesAhead_80 : decode cX10_comesAhead 80 = .ok (.getfield 7, 3) := by decide +kernel
theorem dX10_comesAhead_83 : decode cX10_comesAhead 83 = .ok (.iload_n 3, 1) := by decide +kernel
theorem dX10_comesAhead_84 : decode cX10_comesAhead 84 = .ok (.iaload, 1) := by decide +kernel
theorem dX10_comesAhead_85 : decode cX10_comesAhead 85 = .ok (.aload_n 0, 1) := by decide +kernel
theorem dX10_comesAhead_86 : decode cX10_comesAhead 86 = .ok (.getfield 7, 3) := by decide +kernel
theorem dX10_comesAhead_89 : decode cX10_comesAhead 89 = .ok (.iload 4, 2) := by decide +kernel
theorem dX10_comesAhead_91 : decode cX10_comesAhead 91 = .ok (.iaload, 1) := by decide +kernel
theorem dX10_comesAhead_92 : decode cX10_comesAhead 92 = .ok (.if_icmp .ge 7, 3) := by decide +kernel
theorem dX10_comesAhead_95 : decode cX10_comesAhead 95 = .ok (.iconst 1, 1) := by decide +kernel
theorem dX10_comesAhead_96 : decode cX10_comesAhead 96 = .ok (.goto 17, 3) := by decide +kernel
theorem dX10_comesAhead_99 : decode cX10_comesAhead 99 = .ok (.iconst 0, 1) := by decide +kernel
theorem dX10_comesAhead_100 : decode cX10_comesAhead 100 = .ok (.goto 13, 3) := by decide +kernel
theorem dX10_comesAhead_103 : decode cX10_comesAhead 103 = .ok (.iload_n 1, 1) := by decide +kernel
theorem dX10_comesAhead_104 : decode cX10_comesAhead 104 = .ok (.iload_n 2, 1) := by decide +kernel
theorem dX10_comesAhead_105 : decode cX10_comesAhead 105 = .ok (.if_icmp .ge 7, 3) := by decide +kernel
theorem dX10_comesAhead_108 : decode cX10_comesAhead 108 = .ok (.iconst 1, 1) := by decide +kernel
theorem dX10_comesAhead_109 : decode cX10_comesAhead 109 = .ok (.goto 4, 3) := by decide +kernel
theorem dX10_comesAhead_112 : decode cX10_comesAhead 112 = .ok (.iconst 0, 1) := by decide +kernel
theorem dX10_comesAhead_113 : decode cX10_comesAhead 113 = .ok (.ireturn, 1) := by decide +kernel
theorem dX10_wholeFrom_0 : decode cX10_wholeFrom 0 = .ok (.aload_n 0, 1) := by decide +kernel
theorem dX10_wholeFrom_1 : decode cX10_wholeFrom 1 = .ok (.getfield 335, 3) := by decide +kernel
theorem dX10_wholeFrom_4 : decode cX10_wholeFrom 4 = .ok (.aload_n 0, 1) := by decide +kernel
theorem dX10_wholeFrom_5 : decode cX10_wholeFrom 5 = .ok (.getfield 7, 3) := by decide +kernel
theorem dX10_wholeFrom_8 : decode cX10_wholeFrom 8 = .ok (.bipush 11, 2) := by decide +kernel
theorem dX10_wholeFrom_10 : decode cX10_wholeFrom 10 = .ok (.iaload, 1) := by decide +kernel
theorem dX10_wholeFrom_11 : decode cX10_wholeFrom 11 = .ok (.imul, 1) := by decide +kernel
theorem dX10_wholeFrom_12 : decode cX10_wholeFrom 12 = .ok (.istore_n 3, 1) := by decide +kernel
theorem dX10_wholeFrom_13 : decode cX10_wholeFrom 13 = .ok (.iload_n 1, 1) := by decide +kernel
theorem dX10_wholeFrom_14 : decode cX10_wholeFrom 14 = .ok (.iload_n 2, 1) := by decide +kernel
theorem dX10_wholeFrom_15 : decode cX10_wholeFrom 15 = .ok (.iadd, 1) := by decide +kernel
theorem dX10_wholeFrom_16 : decode cX10_wholeFrom 16 = .ok (.iload_n 3, 1) := by decide +kernel
theorem dX10_wholeFrom_17 : decode cX10_wholeFrom 17 = .ok (.if_icmp .gt 22, 3) := by decide +kernel
theorem dX10_wholeFrom_20 : decode cX10_wholeFrom 20 = .ok (.aload_n 0, 1) := by decide +kernel
theorem dX10_wholeFrom_21 : decode cX10_wholeFrom 21 = .ok (.iload_n 1, 1) := by decide +kernel
theorem dX10_wholeFrom_22 : decode cX10_wholeFrom 22 = .ok (.invokevirtual 338, 3) := by decide +kernel
theorem dX10_wholeFrom_25 : decode cX10_wholeFrom 25 = .ok (.aload_n 0, 1) := by decide +kernel
theorem dX10_wholeFrom_26 : decode cX10_wholeFrom 26 = .ok (.iload_n 1, 1) := by decide +kernel
theorem dX10_wholeFrom_27 : decode cX10_wholeFrom 27 = .ok (.iload_n 2, 1) := by decide +kernel
theorem dX10_wholeFrom_28 : decode cX10_wholeFrom 28 = .ok (.iadd, 1) := by decide +kernel
theorem dX10_wholeFrom_29 : decode cX10_wholeFrom 29 = .ok (.iconst 1, 1) := by decide +kernel
theorem dX10_wholeFrom_30 : decode cX10_wholeFrom 30 = .ok (.isub, 1) := by decide +kernel
theorem dX10_wholeFrom_31 : decode cX10_wholeFrom 31 = .ok (.invokevirtual 338, 3) := by decide +kernel
theorem dX10_wholeFrom_34 : decode cX10_wholeFrom 34 = .ok (.if_icmp .ne 5, 3) := by decide +kernel
theorem dX10_wholeFrom_37 : decode cX10_wholeFrom 37 = .ok (.iload_n 1, 1) := by decide +kernel
theorem dX10_wholeFrom_38 : decode cX10_wholeFrom 38 = .ok (.ireturn, 1) := by decide +kernel
theorem dX10_wholeFrom_39 : decode cX10_wholeFrom 39 = .ok (.iload_n 1, 1) := by decide +kernel
theorem dX10_wholeFrom_40 : decode cX10_wholeFrom 40 = .ok (.istore 4, 2) := by decide +kernel
theorem dX10_wholeFrom_42 : decode cX10_wholeFrom 42 = .ok (.iload 4, 2) := by decide +kernel
theorem dX10_wholeFrom_44 : decode cX10_wholeFrom 44 = .ok (.iload_n 3, 1) := by decide +kernel
theorem dX10_wholeFrom_45 : decode cX10_wholeFrom 45 = .ok (.if_icmp .ge 74, 3) := by decide +kernel
theorem dX10_wholeFrom_48 : decode cX10_wholeFrom 48 = .ok (.iload 4, 2) := by decide +kernel
theorem dX10_wholeFrom_50 : decode cX10_wholeFrom 50 = .ok (.iload_n 1, 1) := by decide +kernel
theorem dX10_wholeFrom_51 : decode cX10_wholeFrom 51 = .ok (.if_icmp .le 24, 3) := by decide +kernel
theorem dX10_wholeFrom_54 : decode cX10_wholeFrom 54 = .ok (.aload_n 0, 1) := by decide +kernel
theorem dX10_wholeFrom_55 : decode cX10_wholeFrom 55 = .ok (.iload 4, 2) := by decide +kernel
theorem dX10_wholeFrom_57 : decode cX10_wholeFrom 57 = .ok (.invokevirtual 338, 3) := by decide +kernel
theorem dX10_wholeFrom_60 : decode cX10_wholeFrom 60 = .ok (.aload_n 0, 1) := by decide +kernel
theorem dX10_wholeFrom_61 : decode cX10_wholeFrom 61 = .ok (.iload 4, 2) := by decide +kernel
theorem dX10_wholeFrom_63 : decode cX10_wholeFrom 63 = .ok (.iconst 1, 1) := by decide +kernel
theorem dX10_wholeFrom_64 : decode cX10_wholeFrom 64 = .ok (.isub, 1) := by decide +kernel
theorem dX10_wholeFrom_65 : decode cX10_wholeFrom 65 = .ok (.invokevirtual 338, 3) := by decide +kernel
theorem dX10_wholeFrom_68 : decode cX10_wholeFrom 68 = .ok (.if_icmp .eq 7, 3) := by decide +kernel
theorem dX10_wholeFrom_71 : decode cX10_wholeFrom 71 = .ok (.iconst 1, 1) := by decide +kernel
theorem dX10_wholeFrom_72 : decode cX10_wholeFrom 72 = .ok (.goto 4, 3) := by decide +kernel
theorem dX10_wholeFrom_75 : decode cX10_wholeFrom 75 = .ok (.iconst 0, 1) := by decide +kernel
theorem dX10_wholeFrom_76 : decode cX10_wholeFrom 76 = .ok (.istore 5, 2) := by decide +kernel
theorem dX10_wholeFrom_78 : decode cX10_wholeFrom 78 = .ok (.iload 5, 2) := by decide +kernel
theorem dX10_wholeFrom_80 : decode cX10_wholeFrom 80 = .ok (.ifCond .eq 33, 3) := by decide +kernel
theorem dX10_wholeFrom_83 : decode cX10_wholeFrom 83 = .ok (.iload 4, 2) := by decide +kernel
theorem dX10_wholeFrom_85 : decode cX10_wholeFrom 85 = .ok (.iload_n 2, 1) := by decide +kernel
theorem dX10_wholeFrom_86 : decode cX10_wholeFrom 86 = .ok (.iadd, 1) := by decide +kernel
theorem dX10_wholeFrom_87 : decode cX10_wholeFrom 87 = .ok (.iload_n 3, 1) := by decide +kernel
theorem dX10_wholeFrom_88 : decode cX10_wholeFrom 88 = .ok (.if_icmp .gt 25, 3) := by decide +kernel
theorem dX10_wholeFrom_91 : decode cX10_wholeFrom 91 = .ok (.aload_n 0, 1) := by decide +kernel
theorem dX10_wholeFrom_92 : decode cX10_wholeFrom 92 = .ok (.iload 4, 2) := by decide +kernel
theorem dX10_wholeFrom_94 : decode cX10_wholeFrom 94 = .ok (.invokevirtual 338, 3) := by decide +kernel
theorem dX10_wholeFrom_97 : decode cX10_wholeFrom 97 = .ok (.aload_n 0, 1) := by decide +kernel
theorem dX10_wholeFrom_98 : decode cX10_wholeFrom 98 = .ok (.iload 4, 2) := by decide +kernel
theorem dX10_wholeFrom_100 : decode cX10_wholeFrom 100 = .ok (.iload_n 2, 1) := by decide +kernel
theorem dX10_wholeFrom_101 : decode cX10_wholeFrom 101 = .ok (.iadd, 1) := by decide +kernel
theorem dX10_wholeFrom_102 : decode cX10_wholeFrom 102 = .ok (.iconst 1, 1) := by decide +kernel
theorem dX10_wholeFrom_103 : decode cX10_wholeFrom 103 = .ok (.isub, 1) := by decide +kernel
theorem dX10_wholeFrom_104 : decode cX10_wholeFrom 104 = .ok (.invokevirtual 338, 3) := by decide +kernel
theorem dX10_wholeFrom_107 : decode cX10_wholeFrom 107 = .ok (.if_icmp .ne 6, 3) := by decide +kernel
theorem dX10_wholeFrom_110 : decode cX10_wholeFrom 110 = .ok (.iload 4, 2) := by decide +kernel
theorem dX10_wholeFrom_112 : decode cX10_wholeFrom 112 = .ok (.ireturn, 1) := by decide +kernel
theorem dX10_wholeFrom_113 : decode cX10_wholeFrom 113 = .ok (.iinc 4 1, 3) := by decide +kernel
theorem dX10_wholeFrom_116 : decode cX10_wholeFrom 116 = .ok (.goto (-74), 3) := by decide +kernel
theorem dX10_wholeFrom_119 : decode cX10_wholeFrom 119 = .ok (.iconst (-1), 1) := by decide +kernel
theorem dX10_wholeFrom_120 : decode cX10_wholeFrom 120 = .ok (.ireturn, 1) := by decide +kernel
theorem dX10_layNotes_0 : decode cX10_layNotes 0 = .ok (.aload_n 0, 1) := by decide +kernel
theorem dX10_layNotes_1 : decode cX10_layNotes 1 = .ok (.iconst 0, 1) := by decide +kernel
theorem dX10_layNotes_2 : decode cX10_layNotes 2 = .ok (.putfield 335, 3) := by decide +kernel
theorem dX10_layNotes_5 : decode cX10_layNotes 5 = .ok (.iconst 0, 1) := by decide +kernel
theorem dX10_layNotes_6 : decode cX10_layNotes 6 = .ok (.istore_n 1, 1) := by decide +kernel
theorem dX10_layNotes_7 : decode cX10_layNotes 7 = .ok (.iload_n 1, 1) := by decide +kernel
theorem dX10_layNotes_8 : decode cX10_layNotes 8 = .ok (.iconst 2, 1) := by decide +kernel
theorem dX10_layNotes_9 : decode cX10_layNotes 9 = .ok (.aload_n 0, 1) := by decide +kernel
theorem dX10_layNotes_10 : decode cX10_layNotes 10 = .ok (.getfield 78, 3) := by decide +kernel
theorem dX10_layNotes_13 : decode cX10_layNotes 13 = .ok (.imul, 1) := by decide +kernel
theorem dX10_layNotes_14 : decode cX10_layNotes 14 = .ok (.if_icmp .ge 37, 3) := by decide +kernel
theorem dX10_layNotes_17 : decode cX10_layNotes 17 = .ok (.aload_n 0, 1) := by decide +kernel
theorem dX10_layNotes_18 : decode cX10_layNotes 18 = .ok (.iload_n 1, 1) := by decide +kernel
theorem dX10_layNotes_19 : decode cX10_layNotes 19 = .ok (.invokevirtual 320, 3) := by decide +kernel
theorem dX10_layNotes_22 : decode cX10_layNotes 22 = .ok (.ifCond .ne 23, 3) := by decide +kernel
theorem dX10_layNotes_25 : decode cX10_layNotes 25 = .ok (.aload_n 0, 1) := by decide +kernel
theorem dX10_layNotes_26 : decode cX10_layNotes 26 = .ok (.getfield 52, 3) := by decide +kernel
theorem dX10_layNotes_29 : decode cX10_layNotes 29 = .ok (.aload_n 0, 1) := by decide +kernel
theorem dX10_layNotes_30 : decode cX10_layNotes 30 = .ok (.getfield 335, 3) := by decide +kernel
theorem dX10_layNotes_33 : decode cX10_layNotes 33 = .ok (.iload_n 1, 1) := by decide +kernel
theorem dX10_layNotes_34 : decode cX10_layNotes 34 = .ok (.iastore, 1) := by decide +kernel
theorem dX10_layNotes_35 : decode cX10_layNotes 35 = .ok (.aload_n 0, 1) := by decide +kernel
theorem dX10_layNotes_36 : decode cX10_layNotes 36 = .ok (.dup, 1) := by decide +kernel
theorem dX10_layNotes_37 : decode cX10_layNotes 37 = .ok (.getfield 335, 3) := by decide +kernel
theorem dX10_layNotes_40 : decode cX10_layNotes 40 = .ok (.iconst 1, 1) := by decide +kernel
theorem dX10_layNotes_41 : decode cX10_layNotes 41 = .ok (.iadd, 1) := by decide +kernel
theorem dX10_layNotes_42 : decode cX10_layNotes 42 = .ok (.putfield 335, 3) := by decide +kernel
theorem dX10_layNotes_45 : decode cX10_layNotes 45 = .ok (.iinc 1 1, 3) := by decide +kernel
theorem dX10_layNotes_48 : decode cX10_layNotes 48 = .ok (.goto (-41), 3) := by decide +kernel
theorem dX10_layNotes_51 : decode cX10_layNotes 51 = .ok (.iconst 0, 1) := by decide +kernel
theorem dX10_layNotes_52 : decode cX10_layNotes 52 = .ok (.istore_n 1, 1) := by decide +kernel
theorem dX10_layNotes_53 : decode cX10_layNotes 53 = .ok (.iconst 0, 1) := by decide +kernel
theorem dX10_layNotes_54 : decode cX10_layNotes 54 = .ok (.istore_n 2, 1) := by decide +kernel
theorem dX10_layNotes_55 : decode cX10_layNotes 55 = .ok (.iconst 0, 1) := by decide +kernel
theorem dX10_layNotes_56 : decode cX10_layNotes 56 = .ok (.istore_n 3, 1) := by decide +kernel
theorem dX10_layNotes_57 : decode cX10_layNotes 57 = .ok (.iload_n 3, 1) := by decide +kernel
theorem dX10_layNotes_58 : decode cX10_layNotes 58 = .ok (.aload_n 0, 1) := by decide +kernel
theorem dX10_layNotes_59 : decode cX10_layNotes 59 = .ok (.getfield 7, 3) := by decide +kernel
theorem dX10_layNotes_62 : decode cX10_layNotes 62 = .ok (.bipush 37, 2) := by decide +kernel
theorem dX10_layNotes_64 : decode cX10_layNotes 64 = .ok (.iaload, 1) := by decide +kernel
theorem dX10_layNotes_65 : decode cX10_layNotes 65 = .ok (.if_icmp .ge 186, 3) := by decide +kernel
theorem dX10_layNotes_68 : decode cX10_layNotes 68 = .ok (.iconst (-1), 1) := by decide +kernel
theorem dX10_layNotes_69 : decode cX10_layNotes 69 = .ok (.istore 4, 2) := by decide +kernel
theorem dX10_layNotes_71 : decode cX10_layNotes 71 = .ok (.iconst 0, 1) := by decide +kernel
theorem dX10_layNotes_72 : decode cX10_layNotes 72 = .ok (.istore 5, 2) := by decide +kernel
theorem dX10_layNotes_74 : decode cX10_layNotes 74 = .ok (.iload 5, 2) := by decide +kernel
theorem dX10_layNotes_76 : decode cX10_layNotes 76 = .ok (.aload_n 0, 1) := by decide +kernel
theorem dX10_layNotes_77 : decode cX10_layNotes 77 = .ok (.getfield 7, 3) := by decide +kernel
theorem dX10_layNotes_80 : decode cX10_layNotes 80 = .ok (.bipush 37, 2) := by decide +kernel
theorem dX10_layNotes_82 : decode cX10_layNotes 82 = .ok (.iaload, 1) := by decide +kernel
theorem dX10_layNotes_83 : decode cX10_layNotes 83 = .ok (.if_icmp .ge 43, 3) := by decide +kernel
theorem dX10_layNotes_86 : decode cX10_layNotes 86 = .ok (.iload_n 1, 1) := by decide +kernel
theorem dX10_layNotes_87 : decode cX10_layNotes 87 = .ok (.iload 5, 2) := by decide +kernel
theorem dX10_layNotes_89 : decode cX10_layNotes 89 = .ok (.invokestatic 120, 3) := by decide +kernel
theorem dX10_layNotes_92 : decode cX10_layNotes 92 = .ok (.ifCond .ne 24, 3) := by decide +kernel
theorem dX10_layNotes_95 : decode cX10_layNotes 95 = .ok (.iload 4, 2) := by decide +kernel
theorem dX10_layNotes_97 : decode cX10_layNotes 97 = .ok (.ifCond .lt 14, 3) := by decide +kernel
theorem dX10_layNotes_100 : decode cX10_layNotes 100 = .ok (.aload_n 0, 1) := by decide +kernel
theorem dX10_layNotes_101 : decode cX10_layNotes 101 = .ok (.iload 5, 2) := by decide +kernel
theorem dX10_layNotes_103 : decode cX10_layNotes 103 = .ok (.iload 4, 2) := by decide +kernel
theorem dX10_layNotes_105 : decode cX10_layNotes 105 = .ok (.invokevirtual 341, 3) := by decide +kernel
theorem dX10_layNotes_108 : decode cX10_layNotes 108 = .ok (.ifCond .eq 8, 3) := by decide +kernel
theorem dX10_layNotes_111 : decode cX10_layNotes 111 = .ok (.iload 5, 2) := by decide +kernel
theorem dX10_layNotes_113 : decode cX10_layNotes 113 = .ok (.goto 5, 3) := by decide +kernel
theorem dX10_layNotes_116 : decode cX10_layNotes 116 = .ok (.iload 4, 2) := by decide +kernel
theorem dX10_layNotes_118 : decode cX10_layNotes 118 = .ok (.istore 4, 2) := by decide +kernel
theorem dX10_layNotes_120 : decode cX10_layNotes 120 = .ok (.iinc 5 1, 3) := by decide +kernel
theorem dX10_layNotes_123 : decode cX10_layNotes 123 = .ok (.goto (-49), 3) := by decide +kernel
theorem dX10_layNotes_126 : decode cX10_layNotes 126 = .ok (.iload_n 1, 1) := by decide +kernel
theorem dX10_layNotes_127 : decode cX10_layNotes 127 = .ok (.iconst 1, 1) := by decide +kernel
theorem dX10_layNotes_128 : decode cX10_layNotes 128 = .ok (.iload 4, 2) := by decide +kernel
theorem dX10_layNotes_130 : decode cX10_layNotes 130 = .ok (.ishl, 1) := by decide +kernel
theorem dX10_layNotes_131 : decode cX10_layNotes 131 = .ok (.ior, 1) := by decide +kernel
theorem dX10_layNotes_132 : decode cX10_layNotes 132 = .ok (.istore_n 1, 1) := by decide +kernel
theorem dX10_layNotes_133 : decode cX10_layNotes 133 = .ok (.aload_n 0, 1) := by decide +kernel
theorem dX10_layNotes_134 : decode cX10_layNotes 134 = .ok (.getfield 7, 3) := by decide +kernel
theorem dX10_layNotes_137 : decode cX10_layNotes 137 = .ok (.bipush 38, 2) := by decide +kernel
theorem dX10_layNotes_139 : decode cX10_layNotes 139 = .ok (.iconst 4, 1) := by decide +kernel
theorem dX10_layNotes_140 : decode cX10_layNotes 140 = .ok (.iload 4, 2) := by decide +kernel
theorem dX10_layNotes_142 : decode cX10_layNotes 142 = .ok (.imul, 1) := by decide +kernel
theorem dX10_layNotes_143 : decode cX10_layNotes 143 = .ok (.iadd, 1) := by decide +kernel
theorem dX10_layNotes_144 : decode cX10_layNotes 144 = .ok (.iconst 2, 1) := by decide +kernel
theorem dX10_layNotes_145 : decode cX10_layNotes 145 = .ok (.iadd, 1) := by decide +kernel
theorem dX10_layNotes_146 : decode cX10_layNotes 146 = .ok (.iaload, 1) := by decide +kernel
theorem dX10_layNotes_147 : decode cX10_layNotes 147 = .ok (.istore 5, 2) := by decide +kernel
theorem dX10_layNotes_149 : decode cX10_layNotes 149 = .ok (.iload_n 2, 1) := by decide +kernel
theorem dX10_layNotes_150 : decode cX10_layNotes 150 = .ok (.iload 5, 2) := by decide +kernel
theorem dX10_layNotes_152 : decode cX10_layNotes 152 = .ok (.iadd, 1) := by decide +kernel
theorem dX10_layNotes_153 : decode cX10_layNotes 153 = .ok (.aload_n 0, 1) := by decide +kernel
theorem dX10_layNotes_154 : decode cX10_layNotes 154 = .ok (.getfield 335, 3) := by decide +kernel
theorem dX10_layNotes_157 : decode cX10_layNotes 157 = .ok (.aload_n 0, 1) := by decide +kernel
theorem dX10_layNotes_158 : decode cX10_layNotes 158 = .ok (.getfield 7, 3) := by decide +kernel
theorem dX10_layNotes_161 : decode cX10_layNotes 161 = .ok (.bipush 11, 2) := by decide +kernel
theorem dX10_layNotes_163 : decode cX10_layNotes 163 = .ok (.iaload, 1) := by decide +kernel
theorem dX10_layNotes_164 : decode cX10_layNotes 164 = .ok (.imul, 1) := by decide +kernel
theorem dX10_layNotes_165 : decode cX10_layNotes 165 = .ok (.if_icmp .gt 7, 3) := by decide +kernel
theorem dX10_layNotes_168 : decode cX10_layNotes 168 = .ok (.iconst 1, 1) := by decide +kernel
theorem dX10_layNotes_169 : decode cX10_layNotes 169 = .ok (.goto 4, 3) := by decide +kernel
theorem dX10_layNotes_172 : decode cX10_layNotes 172 = .ok (.iconst 0, 1) := by decide +kernel
theorem dX10_layNotes_173 : decode cX10_layNotes 173 = .ok (.istore 6, 2) := by decide +kernel
theorem dX10_layNotes_175 : decode cX10_layNotes 175 = .ok (.aload_n 0, 1) := by decide +kernel
theorem dX10_layNotes_176 : decode cX10_layNotes 176 = .ok (.getfield 55, 3) := by decide +kernel
theorem dX10_layNotes_179 : decode cX10_layNotes 179 = .ok (.iload 4, 2) := by decide +kernel
theorem dX10_layNotes_181 : decode cX10_layNotes 181 = .ok (.aload_n 0, 1) := by decide +kernel
theorem dX10_layNotes_182 : decode cX10_layNotes 182 = .ok (.getfield 7, 3) := by decide +kernel
theorem dX10_layNotes_185 : decode cX10_layNotes 185 = .ok (.bipush 38, 2) := by decide +kernel
theorem dX10_layNotes_187 : decode cX10_layNotes 187 = .ok (.iconst 4, 1) := by decide +kernel
theorem dX10_layNotes_188 : decode cX10_layNotes 188 = .ok (.iload 4, 2) := by decide +kernel
theorem dX10_layNotes_190 : decode cX10_layNotes 190 = .ok (.imul, 1) := by decide +kernel
theorem dX10_layNotes_191 : decode cX10_layNotes 191 = .ok (.iadd, 1) := by decide +kernel
theorem dX10_layNotes_192 : decode cX10_layNotes 192 = .ok (.iconst 3, 1) := by decide +kernel
theorem dX10_layNotes_193 : decode cX10_layNotes 193 = .ok (.iadd, 1) := by decide +kernel
theorem dX10_layNotes_194 : decode cX10_layNotes 194 = .ok (.iaload, 1) := by decide +kernel
theorem dX10_layNotes_195 : decode cX10_layNotes 195 = .ok (.iconst 1, 1) := by decide +kernel
theorem dX10_layNotes_196 : decode cX10_layNotes 196 = .ok (.if_icmp .ne 13, 3) := by decide +kernel
theorem dX10_layNotes_199 : decode cX10_layNotes 199 = .ok (.aload_n 0, 1) := by decide +kernel
theorem dX10_layNotes_200 : decode cX10_layNotes 200 = .ok (.iload_n 2, 1) := by decide +kernel
theorem dX10_layNotes_201 : decode cX10_layNotes 201 = .ok (.iload 5, 2) := by decide +kernel
theorem dX10_layNotes_203 : decode cX10_layNotes 203 = .ok (.invokevirtual 344, 3) := by decide +kernel
theorem dX10_layNotes_206 : decode cX10_layNotes 206 = .ok (.goto 13, 3) := by decide +kernel
theorem dX10_layNotes_209 : decode cX10_layNotes 209 = .ok (.iload 6, 2) := by decide +kernel
theorem dX10_layNotes_211 : decode cX10_layNotes 211 = .ok (.ifCond .eq 7, 3) := by decide +kernel
theorem dX10_layNotes_214 : decode cX10_layNotes 214 = .ok (.iload_n 2, 1) := by decide +kernel
theorem dX10_layNotes_215 : decode cX10_layNotes 215 = .ok (.goto 4, 3) := by decide +kernel
theorem dX10_layNotes_218 : decode cX10_layNotes 218 = .ok (.iconst (-1), 1) := by decide +kernel
theorem dX10_layNotes_219 : decode cX10_layNotes 219 = .ok (.iastore, 1) := by decide +kernel
theorem dX10_layNotes_220 : decode cX10_layNotes 220 = .ok (.aload_n 0, 1) := by decide +kernel
theorem dX10_layNotes_221 : decode cX10_layNotes 221 = .ok (.getfield 55, 3) := by decide +kernel
theorem dX10_layNotes_224 : decode cX10_layNotes 224 = .ok (.iload 4, 2) := by decide +kernel
theorem dX10_layNotes_226 : decode cX10_layNotes 226 = .ok (.iaload, 1) := by decide +kernel
theorem dX10_layNotes_227 : decode cX10_layNotes 227 = .ok (.ifCond .ge 7, 3) := by decide +kernel
theorem dX10_layNotes_230 : decode cX10_layNotes 230 = .ok (.iload_n 2, 1) := by decide +kernel
theorem dX10_layNotes_231 : decode cX10_layNotes 231 = .ok (.goto 13, 3) := by decide +kernel
theorem dX10_layNotes_234 : decode cX10_layNotes 234 = .ok (.aload_n 0, 1) := by decide +kernel
theorem dX10_layNotes_235 : decode cX10_layNotes 235 = .ok (.getfield 55, 3) := by decide +kernel
theorem dX10_layNotes_238 : decode cX10_layNotes 238 = .ok (.iload 4, 2) := by decide +kernel
theorem dX10_layNotes_240 : decode cX10_layNotes 240 = .ok (.iaload, 1) := by decide +kernel
theorem dX10_layNotes_241 : decode cX10_layNotes 241 = .ok (.iload 5, 2) := by decide +kernel
theorem dX10_layNotes_243 : decode cX10_layNotes 243 = .ok (.iadd, 1) := by decide +kernel
theorem dX10_layNotes_244 : decode cX10_layNotes 244 = .ok (.istore_n 2, 1) := by decide +kernel
theorem dX10_layNotes_245 : decode cX10_layNotes 245 = .ok (.iinc 3 1, 3) := by decide +kernel
theorem dX10_layNotes_248 : decode cX10_layNotes 248 = .ok (.goto (-191), 3) := by decide +kernel
theorem dX10_layNotes_251 : decode cX10_layNotes 251 = .ok (.return_, 1) := by decide +kernel
theorem dX10_linesOn_0 : decode cX10_linesOn 0 = .ok (.aload_n 0, 1) := by decide +kernel
theorem dX10_linesOn_1 : decode cX10_linesOn 1 = .ok (.invokevirtual 347, 3) := by decide +kernel
theorem dX10_linesOn_4 : decode cX10_linesOn 4 = .ok (.iconst 0, 1) := by decide +kernel
theorem dX10_linesOn_5 : decode cX10_linesOn 5 = .ok (.istore_n 2, 1) := by decide +kernel
theorem dX10_linesOn_6 : decode cX10_linesOn 6 = .ok (.iconst 0, 1) := by decide +kernel
theorem dX10_linesOn_7 : decode cX10_linesOn 7 = .ok (.istore_n 3, 1) := by decide +kernel
theorem dX10_linesOn_8 : decode cX10_linesOn 8 = .ok (.iload_n 3, 1) := by decide +kernel
theorem dX10_linesOn_9 : decode cX10_linesOn 9 = .ok (.aload_n 0, 1) := by decide +kernel
theorem dX10_linesOn_10 : decode cX10_linesOn 10 = .ok (.getfield 335, 3) := by decide +kernel
theorem dX10_linesOn_13 : decode cX10_linesOn 13 = .ok (.aload_n 0, 1) := by decide +kernel
theorem dX10_linesOn_14 : decode cX10_linesOn 14 = .ok (.getfield 7, 3) := by decide +kernel
theorem dX10_linesOn_17 : decode cX10_linesOn 17 = .ok (.bipush 11, 2) := by decide +kernel
theorem dX10_linesOn_19 : decode cX10_linesOn 19 = .ok (.iaload, 1) := by decide +kernel
theorem dX10_linesOn_20 : decode cX10_linesOn 20 = .ok (.imul, 1) := by decide +kernel
theorem dX10_linesOn_21 : decode cX10_linesOn 21 = .ok (.if_icmp .ge 127, 3) := by decide +kernel
theorem dX10_linesOn_24 : decode cX10_linesOn 24 = .ok (.iconst 0, 1) := by decide +kernel
theorem dX10_linesOn_25 : decode cX10_linesOn 25 = .ok (.istore 4, 2) := by decide +kernel
theorem dX10_linesOn_27 : decode cX10_linesOn 27 = .ok (.iconst 0, 1) := by decide +kernel
theorem dX10_linesOn_28 : decode cX10_linesOn 28 = .ok (.istore 5, 2) := by decide +kernel
theorem dX10_linesOn_30 : decode cX10_linesOn 30 = .ok (.iload 5, 2) := by decide +kernel
theorem dX10_linesOn_32 : decode cX10_linesOn 32 = .ok (.aload_n 0, 1) := by decide +kernel
theorem dX10_linesOn_33 : decode cX10_linesOn 33 = .ok (.getfield 7, 3) := by decide +kernel
theorem dX10_linesOn_36 : decode cX10_linesOn 36 = .ok (.bipush 37, 2) := by decide +kernel
theorem dX10_linesOn_38 : decode cX10_linesOn 38 = .ok (.iaload, 1) := by decide +kernel
theorem dX10_linesOn_39 : decode cX10_linesOn 39 = .ok (.if_icmp .ge 72, 3) := by decide +kernel
theorem dX10_linesOn_42 : decode cX10_linesOn 42 = .ok (.iload 4, 2) := by decide +kernel
theorem dX10_linesOn_44 : decode cX10_linesOn 44 = .ok (.ifCond .ne 54, 3) := by decide +kernel
theorem dX10_linesOn_47 : decode cX10_linesOn 47 = .ok (.aload_n 0, 1) := by decide +kernel
theorem dX10_linesOn_48 : decode cX10_linesOn 48 = .ok (.getfield 55, 3) := by decide +kernel
theorem dX10_linesOn_51 : decode cX10_linesOn 51 = .ok (.iload 5, 2) := by decide +kernel
theorem dX10_linesOn_53 : decode cX10_linesOn 53 = .ok (.iaload, 1) := by decide +kernel
theorem dX10_linesOn_54 : decode cX10_linesOn 54 = .ok (.ifCond .lt 48, 3) := by decide +kernel
theorem dX10_linesOn_57 : decode cX10_linesOn 57 = .ok (.iload_n 3, 1) := by decide +kernel
theorem dX10_linesOn_58 : decode cX10_linesOn 58 = .ok (.i2l, 1) := by decide +kernel
theorem dX10_linesOn_59 : decode cX10_linesOn 59 = .ok (.aload_n 0, 1) := by decide +kernel
theorem dX10_linesOn_60 : decode cX10_linesOn 60 = .ok (.getfield 55, 3) := by decide +kernel
theorem dX10_linesOn_63 : decode cX10_linesOn 63 = .ok (.iload 5, 2) := by decide +kernel
theorem dX10_linesOn_65 : decode cX10_linesOn 65 = .ok (.iaload, 1) := by decide +kernel
theorem dX10_linesOn_66 : decode cX10_linesOn 66 = .ok (.i2l, 1) := by decide +kernel
theorem dX10_linesOn_67 : decode cX10_linesOn 67 = .ok (.aload_n 0, 1) := by decide +kernel
theorem dX10_linesOn_68 : decode cX10_linesOn 68 = .ok (.getfield 55, 3) := by decide +kernel
theorem dX10_linesOn_71 : decode cX10_linesOn 71 = .ok (.iload 5, 2) := by decide +kernel
theorem dX10_linesOn_73 : decode cX10_linesOn 73 = .ok (.iaload, 1) := by decide +kernel
theorem dX10_linesOn_74 : decode cX10_linesOn 74 = .ok (.aload_n 0, 1) := by decide +kernel
theorem dX10_linesOn_75 : decode cX10_linesOn 75 = .ok (.getfield 7, 3) := by decide +kernel
theorem dX10_linesOn_78 : decode cX10_linesOn 78 = .ok (.bipush 38, 2) := by decide +kernel
theorem dX10_linesOn_80 : decode cX10_linesOn 80 = .ok (.iconst 4, 1) := by decide +kernel
theorem dX10_linesOn_81 : decode cX10_linesOn 81 = .ok (.iload 5, 2) := by decide +kernel
theorem dX10_linesOn_83 : decode cX10_linesOn 83 = .ok (.imul, 1) := by decide +kernel
theorem dX10_linesOn_84 : decode cX10_linesOn 84 = .ok (.iadd, 1) := by decide +kernel
theorem dX10_linesOn_85 : decode cX10_linesOn 85 = .ok (.iconst 2, 1) := by decide +kernel
theorem dX10_linesOn_86 : decode cX10_linesOn 86 = .ok (.iadd, 1) := by decide +kernel
theorem dX10_linesOn_87 : decode cX10_linesOn 87 = .ok (.iaload, 1) := by decide +kernel
theorem dX10_linesOn_88 : decode cX10_linesOn 88 = .ok (.iadd, 1) := by decide +kernel
theorem dX10_linesOn_89 : decode cX10_linesOn 89 = .ok (.iconst 1, 1) := by decide +kernel
theorem dX10_linesOn_90 : decode cX10_linesOn 90 = .ok (.isub, 1) := by decide +kernel
theorem dX10_linesOn_91 : decode cX10_linesOn 91 = .ok (.i2l, 1) := by decide +kernel
theorem dX10_linesOn_92 : decode cX10_linesOn 92 = .ok (.invokestatic 101, 3) := by decide +kernel
theorem dX10_linesOn_95 : decode cX10_linesOn 95 = .ok (.ifCond .eq 7, 3) := by decide +kernel
theorem dX10_linesOn_98 : decode cX10_linesOn 98 = .ok (.iconst 1, 1) := by decide +kernel
theorem dX10_linesOn_99 : decode cX10_linesOn 99 = .ok (.goto 4, 3) := by decide +kernel
theorem dX10_linesOn_102 : decode cX10_linesOn 102 = .ok (.iconst 0, 1) := by decide +kernel
theorem dX10_linesOn_103 : decode cX10_linesOn 103 = .ok (.istore 4, 2) := by decide +kernel
theorem dX10_linesOn_105 : decode cX10_linesOn 105 = .ok (.iinc 5 1, 3) := by decide +kernel
theorem dX10_linesOn_108 : decode cX10_linesOn 108 = .ok (.goto (-78), 3) := by decide +kernel
theorem dX10_linesOn_111 : decode cX10_linesOn 111 = .ok (.iload_n 2, 1) := by decide +kernel
theorem dX10_linesOn_112 : decode cX10_linesOn 112 = .ok (.iload 4, 2) := by decide +kernel
theorem dX10_linesOn_114 : decode cX10_linesOn 114 = .ok (.ifCond .eq 25, 3) := by decide +kernel
theorem dX10_linesOn_117 : decode cX10_linesOn 117 = .ok (.aload_n 0, 1) := by decide +kernel
theorem dX10_linesOn_118 : decode cX10_linesOn 118 = .ok (.getfield 52, 3) := by decide +kernel
theorem dX10_linesOn_121 : decode cX10_linesOn 121 = .ok (.iload_n 3, 1) := by decide +kernel
theorem dX10_linesOn_122 : decode cX10_linesOn 122 = .ok (.aload_n 0, 1) := by decide +kernel
theorem dX10_linesOn_123 : decode cX10_linesOn 123 = .ok (.getfield 7, 3) := by decide +kernel
theorem dX10_linesOn_126 : decode cX10_linesOn 126 = .ok (.bipush 11, 2) := by decide +kernel
theorem dX10_linesOn_128 : decode cX10_linesOn 128 = .ok (.iaload, 1) := by decide +kernel
theorem dX10_linesOn_129 : decode cX10_linesOn 129 = .ok (.idiv, 1) := by decide +kernel
theorem dX10_linesOn_130 : decode cX10_linesOn 130 = .ok (.iaload, 1) := by decide +kernel
theorem dX10_linesOn_131 : decode cX10_linesOn 131 = .ok (.iload_n 1, 1) := by decide +kernel
theorem dX10_linesOn_132 : decode cX10_linesOn 132 = .ok (.if_icmp .ne 7, 3) := by decide +kernel
theorem dX10_linesOn_135 : decode cX10_linesOn 135 = .ok (.iconst 1, 1) := by decide +kernel
theorem dX10_linesOn_136 : decode cX10_linesOn 136 = .ok (.goto 4, 3) := by decide +kernel
theorem dX10_linesOn_139 : decode cX10_linesOn 139 = .ok (.iconst 0, 1) := by decide +kernel
theorem dX10_linesOn_140 : decode cX10_linesOn 140 = .ok (.iadd, 1) := by decide +kernel
theorem dX10_linesOn_141 : decode cX10_linesOn 141 = .ok (.istore_n 2, 1) := by decide +kernel
theorem dX10_linesOn_142 : decode cX10_linesOn 142 = .ok (.iinc 3 1, 3) := by decide +kernel
theorem dX10_linesOn_145 : decode cX10_linesOn 145 = .ok (.goto (-137), 3) := by decide +kernel
theorem dX10_linesOn_148 : decode cX10_linesOn 148 = .ok (.iload_n 2, 1) := by decide +kernel
theorem dX10_linesOn_149 : decode cX10_linesOn 149 = .ok (.ireturn, 1) := by decide +kernel
theorem dX10_note_0 : decode cX10_note 0 = .ok (.iload_n 1, 1) := by decide +kernel
theorem dX10_note_1 : decode cX10_note 1 = .ok (.i2l, 1) := by decide +kernel
theorem dX10_note_2 : decode cX10_note 2 = .ok (.lconst 0, 1) := by decide +kernel
theorem dX10_note_3 : decode cX10_note 3 = .ok (.aload_n 0, 1) := by decide +kernel
theorem dX10_note_4 : decode cX10_note 4 = .ok (.getfield 7, 3) := by decide +kernel
theorem dX10_note_7 : decode cX10_note 7 = .ok (.bipush 37, 2) := by decide +kernel
theorem dX10_note_9 : decode cX10_note 9 = .ok (.iaload, 1) := by decide +kernel
theorem dX10_note_10 : decode cX10_note 10 = .ok (.iconst 1, 1) := by decide +kernel
theorem dX10_note_11 : decode cX10_note 11 = .ok (.isub, 1) := by decide +kernel
theorem dX10_note_12 : decode cX10_note 12 = .ok (.i2l, 1) := by decide +kernel
theorem dX10_note_13 : decode cX10_note 13 = .ok (.invokestatic 101, 3) := by decide +kernel
theorem dX10_note_16 : decode cX10_note 16 = .ok (.ifCond .eq 15, 3) := by decide +kernel
theorem dX10_note_19 : decode cX10_note 19 = .ok (.iload_n 2, 1) := by decide +kernel
theorem dX10_note_20 : decode cX10_note 20 = .ok (.i2l, 1) := by decide +kernel
theorem dX10_note_21 : decode cX10_note 21 = .ok (.lconst 0, 1) := by decide +kernel
theorem dX10_note_22 : decode cX10_note 22 = .ok (.ldc2_w 350, 3) := by decide +kernel
theorem dX10_note_25 : decode cX10_note 25 = .ok (.invokestatic 101, 3) := by decide +kernel
theorem dX10_note_28 : decode cX10_note 28 = .ok (.ifCond .ne 5, 3) := by decide +kernel
theorem dX10_note_31 : decode cX10_note 31 = .ok (.iconst (-1), 1) := by decide +kernel
theorem dX10_note_32 : decode cX10_note 32 = .ok (.ireturn, 1) := by decide +kernel
theorem dX10_note_33 : decode cX10_note 33 = .ok (.bipush 38, 2) := by decide +kernel
theorem dX10_note_35 : decode cX10_note 35 = .ok (.iconst 4, 1) := by decide +kernel
theorem dX10_note_36 : decode cX10_note 36 = .ok (.iload_n 1, 1) := by decide +kernel
theorem dX10_note_37 : decode cX10_note 37 = .ok (.imul, 1) := by decide +kernel
theorem dX10_note_38 : decode cX10_note 38 = .ok (.iadd, 1) := by decide +kernel
theorem dX10_note_39 : decode cX10_note 39 = .ok (.istore_n 3, 1) := by decide +kernel
theorem dX10_note_40 : decode cX10_note 40 = .ok (.iload_n 2, 1) := by decide +kernel
theorem dX10_note_41 : decode cX10_note 41 = .ok (.iconst 4, 1) := by decide +kernel
theorem dX10_note_42 : decode cX10_note 42 = .ok (.if_icmp .ge 12, 3) := by decide +kernel
theorem dX10_note_45 : decode cX10_note 45 = .ok (.aload_n 0, 1) := by decide +kernel
theorem dX10_note_46 : decode cX10_note 46 = .ok (.getfield 7, 3) := by decide +kernel
theorem dX10_note_49 : decode cX10_note 49 = .ok (.iload_n 3, 1) := by decide +kernel
theorem dX10_note_50 : decode cX10_note 50 = .ok (.iload_n 2, 1) := by decide +kernel
theorem dX10_note_51 : decode cX10_note 51 = .ok (.iadd, 1) := by decide +kernel
theorem dX10_note_52 : decode cX10_note 52 = .ok (.iaload, 1) := by decide +kernel
theorem dX10_note_53 : decode cX10_note 53 = .ok (.ireturn, 1) := by decide +kernel
theorem dX10_note_54 : decode cX10_note 54 = .ok (.aload_n 0, 1) := by decide +kernel
theorem dX10_note_55 : decode cX10_note 55 = .ok (.invokevirtual 162, 3) := by decide +kernel
theorem dX10_note_58 : decode cX10_note 58 = .ok (.ifCond .ne 6, 3) := by decide +kernel
theorem dX10_note_61 : decode cX10_note 61 = .ok (.bipush (-9), 2) := by decide +kernel
theorem dX10_note_63 : decode cX10_note 63 = .ok (.ireturn, 1) := by decide +kernel
theorem dX10_note_64 : decode cX10_note 64 = .ok (.aload_n 0, 1) := by decide +kernel
theorem dX10_note_65 : decode cX10_note 65 = .ok (.invokevirtual 347, 3) := by decide +kernel
theorem dX10_note_68 : decode cX10_note 68 = .ok (.aload_n 0, 1) := by decide +kernel
theorem dX10_note_69 : decode cX10_note 69 = .ok (.getfield 55, 3) := by decide +kernel
theorem dX10_note_72 : decode cX10_note 72 = .ok (.iload_n 1, 1) := by decide +kernel
theorem dX10_note_73 : decode cX10_note 73 = .ok (.iaload, 1) := by decide +kernel
theorem dX10_note_74 : decode cX10_note 74 = .ok (.istore 4, 2) := by decide +kernel
theorem dX10_note_76 : decode cX10_note 76 = .ok (.iload 4, 2) := by decide +kernel
theorem dX10_note_78 : decode cX10_note 78 = .ok (.ifCond .ge 6, 3) := by decide +kernel
theorem dX10_note_81 : decode cX10_note 81 = .ok (.bipush (-9), 2) := by decide +kernel
theorem dX10_note_83 : decode cX10_note 83 = .ok (.ireturn, 1) := by decide +kernel
theorem dX10_note_84 : decode cX10_note 84 = .ok (.iload_n 2, 1) := by decide +kernel
theorem dX10_note_85 : decode cX10_note 85 = .ok (.iconst 4, 1) := by decide +kernel
theorem dX10_note_86 : decode cX10_note 86 = .ok (.if_icmp .ne 21, 3) := by decide +kernel
theorem dX10_note_89 : decode cX10_note 89 = .ok (.aload_n 0, 1) := by decide +kernel
theorem dX10_note_90 : decode cX10_note 90 = .ok (.getfield 52, 3) := by decide +kernel
theorem dX10_note_93 : decode cX10_note 93 = .ok (.iload 4, 2) := by decide +kernel
theorem dX10_note_95 : decode cX10_note 95 = .ok (.aload_n 0, 1) := by decide +kernel
theorem dX10_note_96 : decode cX10_note 96 = .ok (.getfield 7, 3) := by decide +kernel
theorem dX10_note_99 : decode cX10_note 99 = .ok (.bipush 11, 2) := by decide +kernel
theorem dX10_note_101 : decode cX10_note 101 = .ok (.iaload, 1) := by decide +kernel
theorem dX10_note_102 : decode cX10_note 102 = .ok (.idiv, 1) := by decide +kernel
theorem dX10_note_103 : decode cX10_note 103 = .ok (.iaload, 1) := by decide +kernel
theorem dX10_note_104 : decode cX10_note 104 = .ok (.goto 47, 3) := by decide +kernel
theorem dX10_note_107 : decode cX10_note 107 = .ok (.iload_n 2, 1) := by decide +kernel
theorem dX10_note_108 : decode cX10_note 108 = .ok (.iconst 5, 1) := by decide +kernel
theorem dX10_note_109 : decode cX10_note 109 = .ok (.if_icmp .ne 16, 3) := by decide +kernel
theorem dX10_note_112 : decode cX10_note 112 = .ok (.iload 4, 2) := by decide +kernel
theorem dX10_note_114 : decode cX10_note 114 = .ok (.aload_n 0, 1) := by decide +kernel
theorem dX10_note_115 : decode cX10_note 115 = .ok (.getfield 7, 3) := by decide +kernel
theorem dX10_note_118 : decode cX10_note 118 = .ok (.bipush 11, 2) := by decide +kernel
theorem dX10_note_120 : decode cX10_note 120 = .ok (.iaload, 1) := by decide +kernel
theorem dX10_note_121 : decode cX10_note 121 = .ok (.irem, 1) := by decide +kernel
theorem dX10_note_122 : decode cX10_note 122 = .ok (.goto 29, 3) := by decide +kernel
theorem dX10_note_125 : decode cX10_note 125 = .ok (.aload_n 0, 1) := by decide +kernel
theorem dX10_note_126 : decode cX10_note 126 = .ok (.getfield 52, 3) := by decide +kernel
theorem dX10_note_129 : decode cX10_note 129 = .ok (.iload 4, 2) := by decide +kernel
theorem dX10_note_131 : decode cX10_note 131 = .ok (.aload_n 0, 1) := by decide +kernel
theorem dX10_note_132 : decode cX10_note 132 = .ok (.getfield 7, 3) := by decide +kernel
theorem dX10_note_135 : decode cX10_note 135 = .ok (.iload_n 3, 1) := by decide +kernel
theorem dX10_note_136 : decode cX10_note 136 = .ok (.iconst 2, 1) := by decide +kernel
theorem dX10_note_137 : decode cX10_note 137 = .ok (.iadd, 1) := by decide +kernel
theorem dX10_note_138 : decode cX10_note 138 = .ok (.iaload, 1) := by decide +kernel
theorem dX10_note_139 : decode cX10_note 139 = .ok (.iadd, 1) := by decide +kernel
theorem dX10_note_140 : decode cX10_note 140 = .ok (.iconst 1, 1) := by decide +kernel
theorem dX10_note_141 : decode cX10_note 141 = .ok (.isub, 1) := by decide +kernel
theorem dX10_note_142 : decode cX10_note 142 = .ok (.aload_n 0, 1) := by decide +kernel
theorem dX10_note_143 : decode cX10_note 143 = .ok (.getfield 7, 3) := by decide +kernel
theorem dX10_note_146 : decode cX10_note 146 = .ok (.bipush 11, 2) := by decide +kernel
theorem dX10_note_148 : decode cX10_note 148 = .ok (.iaload, 1) := by decide +kernel
theorem dX10_note_149 : decode cX10_note 149 = .ok (.idiv, 1) := by decide +kernel
theorem dX10_note_150 : decode cX10_note 150 = .ok (.iaload, 1) := by decide +kernel
theorem dX10_note_151 : decode cX10_note 151 = .ok (.ireturn, 1) := by decide +kernel
theorem dX10_pageBy_0 : decode cX10_pageBy 0 = .ok (.iconst (-1), 1) := by decide +kernel
theorem dX10_pageBy_1 : decode cX10_pageBy 1 = .ok (.istore_n 2, 1) := by decide +kernel
theorem dX10_pageBy_2 : decode cX10_pageBy 2 = .ok (.iconst 0, 1) := by decide +kernel
theorem dX10_pageBy_3 : decode cX10_pageBy 3 = .ok (.istore_n 3, 1) := by decide +kernel
theorem dX10_pageBy_4 : decode cX10_pageBy 4 = .ok (.iload_n 3, 1) := by decide +kernel
theorem dX10_pageBy_5 : decode cX10_pageBy 5 = .ok (.aload_n 0, 1) := by decide +kernel
theorem dX10_pageBy_6 : decode cX10_pageBy 6 = .ok (.getfield 7, 3) := by decide +kernel
theorem dX10_pageBy_9 : decode cX10_pageBy 9 = .ok (.bipush 37, 2) := by decide +kernel
theorem dX10_pageBy_11 : decode cX10_pageBy 11 = .ok (.iaload, 1) := by decide +kernel
theorem dX10_pageBy_12 : decode cX10_pageBy 12 = .ok (.if_icmp .ge 71, 3) := by decide +kernel
theorem dX10_pageBy_15 : decode cX10_pageBy 15 = .ok (.aload_n 0, 1) := by decide +kernel
theorem dX10_pageBy_16 : decode cX10_pageBy 16 = .ok (.getfield 7, 3) := by decide +kernel
theorem dX10_pageBy_19 : decode cX10_pageBy 19 = .ok (.bipush 38, 2) := by decide +kernel
theorem dX10_pageBy_21 : decode cX10_pageBy 21 = .ok (.iconst 4, 1) := by decide +kernel
theorem dX10_pageBy_22 : decode cX10_pageBy 22 = .ok (.iload_n 3, 1) := by decide +kernel
theorem dX10_pageBy_23 : decode cX10_pageBy 23 = .ok (.imul, 1) := by decide +kernel
theorem dX10_pageBy_24 : decode cX10_pageBy 24 = .ok (.iadd, 1) := by decide +kernel
theorem dX10_pageBy_25 : decode cX10_pageBy 25 = .ok (.iaload, 1) := by decide +kernel
theorem dX10_pageBy_26 : decode cX10_pageBy 26 = .ok (.iload_n 1, 1) := by decide +kernel
theorem dX10_pageBy_27 : decode cX10_pageBy 27 = .ok (.if_icmp .ne 50, 3) := by decide +kernel
theorem dX10_pageBy_30 : decode cX10_pageBy 30 = .ok (.aload_n 0, 1) := by decide +kernel
theorem dX10_pageBy_31 : decode cX10_pageBy 31 = .ok (.getfield 55, 3) := by decide +kernel
theorem dX10_pageBy_34 : decode cX10_pageBy 34 = .ok (.iload_n 3, 1) := by decide +kernel
theorem dX10_pageBy_35 : decode cX10_pageBy 35 = .ok (.iaload, 1) := by decide +kernel
theorem dX10_pageBy_36 : decode cX10_pageBy 36 = .ok (.ifCond .lt 41, 3) := by decide +kernel
theorem dX10_pageBy_39 : decode cX10_pageBy 39 = .ok (.aload_n 0, 1) := by decide +kernel
theorem dX10_pageBy_40 : decode cX10_pageBy 40 = .ok (.getfield 52, 3) := by decide +kernel
theorem dX10_pageBy_43 : decode cX10_pageBy 43 = .ok (.aload_n 0, 1) := by decide +kernel
theorem dX10_pageBy_44 : decode cX10_pageBy 44 = .ok (.getfield 55, 3) := by decide +kernel
theorem dX10_pageBy_47 : decode cX10_pageBy 47 = .ok (.iload_n 3, 1) := by decide +kernel
theorem dX10_pageBy_48 : decode cX10_pageBy 48 = .ok (.iaload, 1) := by decide +kernel
theorem dX10_pageBy_49 : decode cX10_pageBy 49 = .ok (.aload_n 0, 1) := by decide +kernel
theorem dX10_pageBy_50 : decode cX10_pageBy 50 = .ok (.getfield 7, 3) := by decide +kernel
theorem dX10_pageBy_53 : decode cX10_pageBy 53 = .ok (.bipush 11, 2) := by decide +kernel
theorem dX10_pageBy_55 : decode cX10_pageBy 55 = .ok (.iaload, 1) := by decide +kernel
theorem dX10_pageBy_56 : decode cX10_pageBy 56 = .ok (.idiv, 1) := by decide +kernel
theorem dX10_pageBy_57 : decode cX10_pageBy 57 = .ok (.iaload, 1) := by decide +kernel
theorem dX10_pageBy_58 : decode cX10_pageBy 58 = .ok (.istore 4, 2) := by decide +kernel
theorem dX10_pageBy_60 : decode cX10_pageBy 60 = .ok (.iload_n 2, 1) := by decide +kernel
theorem dX10_pageBy_61 : decode cX10_pageBy 61 = .ok (.ifCond .lt 9, 3) := by decide +kernel
theorem dX10_pageBy_64 : decode cX10_pageBy 64 = .ok (.iload 4, 2) := by decide +kernel
theorem dX10_pageBy_66 : decode cX10_pageBy 66 = .ok (.iload_n 2, 1) := by decide +kernel
theorem dX10_pageBy_67 : decode cX10_pageBy 67 = .ok (.if_icmp .ge 8, 3) := by decide +kernel
theorem dX10_pageBy_70 : decode cX10_pageBy 70 = .ok (.iload 4, 2) := by decide +kernel
theorem dX10_pageBy_72 : decode cX10_pageBy 72 = .ok (.goto 4, 3) := by decide +kernel
theorem dX10_pageBy_75 : decode cX10_pageBy 75 = .ok (.iload_n 2, 1) := by decide +kernel
theorem dX10_pageBy_76 : decode cX10_pageBy 76 = .ok (.istore_n 2, 1) := by decide +kernel
theorem dX10_pageBy_77 : decode cX10_pageBy 77 = .ok (.iinc 3 1, 3) := by decide +kernel
theorem dX10_pageBy_80 : decode cX10_pageBy 80 = .ok (.goto (-76), 3) := by decide +kernel
theorem dX10_pageBy_83 : decode cX10_pageBy 83 = .ok (.iload_n 2, 1) := by decide +kernel
theorem dX10_pageBy_84 : decode cX10_pageBy 84 = .ok (.ireturn, 1) := by decide +kernel
theorem dX10_index_0 : decode cX10_index 0 = .ok (.aload_n 0, 1) := by decide +kernel
theorem dX10_index_1 : decode cX10_index 1 = .ok (.invokevirtual 162, 3) := by decide +kernel
theorem dX10_index_4 : decode cX10_index 4 = .ok (.ifCond .ne 6, 3) := by decide +kernel
theorem dX10_index_7 : decode cX10_index 7 = .ok (.bipush (-2), 2) := by decide +kernel
theorem dX10_index_9 : decode cX10_index 9 = .ok (.ireturn, 1) := by decide +kernel
theorem dX10_index_10 : decode cX10_index 10 = .ok (.iload_n 1, 1) := by decide +kernel
theorem dX10_index_11 : decode cX10_index 11 = .ok (.ifCond .lt 13, 3) := by decide +kernel
theorem dX10_index_14 : decode cX10_index 14 = .ok (.iload_n 2, 1) := by decide +kernel
theorem dX10_index_15 : decode cX10_index 15 = .ok (.i2l, 1) := by decide +kernel
theorem dX10_index_16 : decode cX10_index 16 = .ok (.lconst 0, 1) := by decide +kernel
theorem dX10_index_17 : decode cX10_index 17 = .ok (.lconst 1, 1) := by decide +kernel
theorem dX10_index_18 : decode cX10_index 18 = .ok (.invokestatic 101, 3) := by decide +kernel
theorem dX10_index_21 : decode cX10_index 21 = .ok (.ifCond .ne 5, 3) := by decide +kernel
theorem dX10_index_24 : decode cX10_index 24 = .ok (.iconst (-1), 1) := by decide +kernel
theorem dX10_index_25 : decode cX10_index 25 = .ok (.ireturn, 1) := by decide +kernel
theorem dX10_index_26 : decode cX10_index 26 = .ok (.aload_n 0, 1) := by decide +kernel
theorem dX10_index_27 : decode cX10_index 27 = .ok (.invokevirtual 347, 3) := by decide +kernel
theorem dX10_index_30 : decode cX10_index 30 = .ok (.iload_n 1, 1) := by decide +kernel
theorem dX10_index_31 : decode cX10_index 31 = .ok (.istore_n 3, 1) := by decide +kernel
theorem dX10_index_32 : decode cX10_index 32 = .ok (.iconst 0, 1) := by decide +kernel
theorem dX10_index_33 : decode cX10_index 33 = .ok (.istore 4, 2) := by decide +kernel
theorem dX10_index_35 : decode cX10_index 35 = .ok (.iload 4, 2) := by decide +kernel
theorem dX10_index_37 : decode cX10_index 37 = .ok (.bipush 100, 2) := by decide +kernel
theorem dX10_index_39 : decode cX10_index 39 = .ok (.if_icmp .ge 51, 3) := by decide +kernel
theorem dX10_index_42 : decode cX10_index 42 = .ok (.aload_n 0, 1) := by decide +kernel
theorem dX10_index_43 : decode cX10_index 43 = .ok (.iload 4, 2) := by decide +kernel
theorem dX10_index_45 : decode cX10_index 45 = .ok (.invokevirtual 352, 3) := by decide +kernel
theorem dX10_index_48 : decode cX10_index 48 = .ok (.istore 5, 2) := by decide +kernel
theorem dX10_index_50 : decode cX10_index 50 = .ok (.iload 5, 2) := by decide +kernel
theorem dX10_index_52 : decode cX10_index 52 = .ok (.ifCond .lt 19, 3) := by decide +kernel
theorem dX10_index_55 : decode cX10_index 55 = .ok (.iload_n 3, 1) := by decide +kernel
theorem dX10_index_56 : decode cX10_index 56 = .ok (.ifCond .ne 15, 3) := by decide +kernel
theorem dX10_index_59 : decode cX10_index 59 = .ok (.iload_n 2, 1) := by decide +kernel
theorem dX10_index_60 : decode cX10_index 60 = .ok (.ifCond .ne 8, 3) := by decide +kernel
theorem dX10_index_63 : decode cX10_index 63 = .ok (.iload 4, 2) := by decide +kernel
theorem dX10_index_65 : decode cX10_index 65 = .ok (.goto 5, 3) := by decide +kernel
theorem dX10_index_68 : decode cX10_index 68 = .ok (.iload 5, 2) := by decide +kernel
theorem dX10_index_70 : decode cX10_index 70 = .ok (.ireturn, 1) := by decide +kernel
theorem dX10_index_71 : decode cX10_index 71 = .ok (.iload_n 3, 1) := by decide +kernel
theorem dX10_index_72 : decode cX10_index 72 = .ok (.iload 5, 2) := by decide +kernel
theorem dX10_index_74 : decode cX10_index 74 = .ok (.ifCond .lt 7, 3) := by decide +kernel
theorem dX10_index_77 : decode cX10_index 77 = .ok (.iconst 1, 1) := by decide +kernel
theorem dX10_index_78 : decode cX10_index 78 = .ok (.goto 4, 3) := by decide +kernel
theorem dX10_index_81 : decode cX10_index 81 = .ok (.iconst 0, 1) := by decide +kernel
theorem dX10_index_82 : decode cX10_index 82 = .ok (.isub, 1) := by decide +kernel
theorem dX10_index_83 : decode cX10_index 83 = .ok (.istore_n 3, 1) := by decide +kernel
theorem dX10_index_84 : decode cX10_index 84 = .ok (.iinc 4 1, 3) := by decide +kernel
theorem dX10_index_87 : decode cX10_index 87 = .ok (.goto (-52), 3) := by decide +kernel
theorem dX10_index_90 : decode cX10_index 90 = .ok (.bipush (-9), 2) := by decide +kernel
theorem dX10_index_92 : decode cX10_index 92 = .ok (.ireturn, 1) := by decide +kernel
theorem dX10_effort_0 : decode cX10_effort 0 = .ok (.iload_n 1, 1) := by decide +kernel
theorem dX10_effort_1 : decode cX10_effort 1 = .ok (.i2l, 1) := by decide +kernel
theorem dX10_effort_2 : decode cX10_effort 2 = .ok (.lconst 0, 1) := by decide +kernel
theorem dX10_effort_3 : decode cX10_effort 3 = .ok (.ldc2_w 99, 3) := by decide +kernel
theorem dX10_effort_6 : decode cX10_effort 6 = .ok (.invokestatic 101, 3) := by decide +kernel
theorem dX10_effort_9 : decode cX10_effort 9 = .ok (.ifCond .ne 5, 3) := by decide +kernel
theorem dX10_effort_12 : decode cX10_effort 12 = .ok (.iconst (-1), 1) := by decide +kernel
theorem dX10_effort_13 : decode cX10_effort 13 = .ok (.ireturn, 1) := by decide +kernel
theorem dX10_effort_14 : decode cX10_effort 14 = .ok (.iload_n 1, 1) := by decide +kernel
theorem dX10_effort_15 : decode cX10_effort 15 = .ok (.iconst 4, 1) := by decide +kernel
theorem dX10_effort_16 : decode cX10_effort 16 = .ok (.if_icmp .ge 15, 3) := by decide +kernel
theorem dX10_effort_19 : decode cX10_effort 19 = .ok (.aload_n 0, 1) := by decide +kernel
theorem dX10_effort_20 : decode cX10_effort 20 = .ok (.getfield 7, 3) := by decide +kernel
theorem dX10_effort_23 : decode cX10_effort 23 = .ok (.bipush 86, 2) := by decide +kernel
theorem dX10_effort_25 : decode cX10_effort 25 = .ok (.iload_n 1, 1) := by decide +kernel
theorem dX10_effort_26 : decode cX10_effort 26 = .ok (.iadd, 1) := by decide +kernel
theorem dX10_effort_27 : decode cX10_effort 27 = .ok (.iaload, 1) := by decide +kernel
theorem dX10_effort_28 : decode cX10_effort 28 = .ok (.goto 34, 3) := by decide +kernel
theorem dX10_effort_31 : decode cX10_effort 31 = .ok (.aload_n 0, 1) := by decide +kernel
theorem dX10_effort_32 : decode cX10_effort 32 = .ok (.getfield 7, 3) := by decide +kernel
theorem dX10_effort_35 : decode cX10_effort 35 = .ok (.bipush 86, 2) := by decide +kernel
theorem dX10_effort_37 : decode cX10_effort 37 = .ok (.iaload, 1) := by decide +kernel
theorem dX10_effort_38 : decode cX10_effort 38 = .ok (.aload_n 0, 1) := by decide +kernel
theorem dX10_effort_39 : decode cX10_effort 39 = .ok (.getfield 7, 3) := by decide +kernel
theorem dX10_effort_42 : decode cX10_effort 42 = .ok (.bipush 87, 2) := by decide +kernel
theorem dX10_effort_44 : decode cX10_effort 44 = .ok (.iaload, 1) := by decide +kernel
theorem dX10_effort_45 : decode cX10_effort 45 = .ok (.iadd, 1) := by decide +kernel
theorem dX10_effort_46 : decode cX10_effort 46 = .ok (.aload_n 0, 1) := by decide +kernel
theorem dX10_effort_47 : decode cX10_effort 47 = .ok (.getfield 7, 3) := by decide +kernel
theorem dX10_effort_50 : decode cX10_effort 50 = .ok (.bipush 88, 2) := by decide +kernel
theorem dX10_effort_52 : decode cX10_effort 52 = .ok (.iaload, 1) := by decide +kernel
theorem dX10_effort_53 : decode cX10_effort 53 = .ok (.iadd, 1) := by decide +kernel
theorem dX10_effort_54 : decode cX10_effort 54 = .ok (.aload_n 0, 1) := by decide +kernel
theorem dX10_effort_55 : decode cX10_effort 55 = .ok (.getfield 7, 3) := by decide +kernel
theorem dX10_effort_58 : decode cX10_effort 58 = .ok (.bipush 89, 2) := by decide +kernel
theorem dX10_effort_60 : decode cX10_effort 60 = .ok (.iaload, 1) := by decide +kernel
theorem dX10_effort_61 : decode cX10_effort 61 = .ok (.iadd, 1) := by decide +kernel
theorem dX10_effort_62 : decode cX10_effort 62 = .ok (.ireturn, 1) := by decide +kernel
theorem dX10_isSeen_0 : decode cX10_isSeen 0 = .ok (.iconst 1, 1) := by decide +kernel
theorem dX10_isSeen_1 : decode cX10_isSeen 1 = .ok (.istore_n 1, 1) := by decide +kernel
theorem dX10_isSeen_2 : decode cX10_isSeen 2 = .ok (.iconst 0, 1) := by decide +kernel
theorem dX10_isSeen_3 : decode cX10_isSeen 3 = .ok (.istore_n 2, 1) := by decide +kernel
theorem dX10_isSeen_4 : decode cX10_isSeen 4 = .ok (.iload_n 2, 1) := by decide +kernel
theorem dX10_isSeen_5 : decode cX10_isSeen 5 = .ok (.aload_n 0, 1) := by decide +kernel
theorem dX10_isSeen_6 : decode cX10_isSeen 6 = .ok (.getfield 7, 3) := by decide +kernel
theorem dX10_isSeen_9 : decode cX10_isSeen 9 = .ok (.bipush 12, 2) := by decide +kernel
theorem dX10_isSeen_11 : decode cX10_isSeen 11 = .ok (.iaload, 1) := by decide +kernel
theorem dX10_isSeen_12 : decode cX10_isSeen 12 = .ok (.if_icmp .ge 76, 3) := by decide +kernel
theorem dX10_isSeen_15 : decode cX10_isSeen 15 = .ok (.bipush 13, 2) := by decide +kernel
theorem dX10_isSeen_17 : decode cX10_isSeen 17 = .ok (.iconst 3, 1) := by decide +kernel
theorem dX10_isSeen_18 : decode cX10_isSeen 18 = .ok (.iload_n 2, 1) := by decide +kernel
theorem dX10_isSeen_19 : decode cX10_isSeen 19 = .ok (.imul, 1) := by decide +kernel
theorem dX10_isSeen_20 : decode cX10_isSeen 20 = .ok (.iadd, 1) := by decide +kernel
theorem dX10_isSeen_21 : decode cX10_isSeen 21 = .ok (.istore_n 3, 1) := by decide +kernel
theorem dX10_isSeen_22 : decode cX10_isSeen 22 = .ok (.iload_n 1, 1) := by decide +kernel
theorem dX10_isSeen_23 : decode cX10_isSeen 23 = .ok (.ifCond .eq 57, 3) := by decide +kernel
theorem dX10_isSeen_26 : decode cX10_isSeen 26 = .ok (.aload_n 0, 1) := by decide +kernel
theorem dX10_isSeen_27 : decode cX10_isSeen 27 = .ok (.aload_n 0, 1) := by decide +kernel
theorem dX10_isSeen_28 : decode cX10_isSeen 28 = .ok (.getfield 7, 3) := by decide +kernel
theorem dX10_isSeen_31 : decode cX10_isSeen 31 = .ok (.iload_n 3, 1) := by decide +kernel
theorem dX10_isSeen_32 : decode cX10_isSeen 32 = .ok (.iaload, 1) := by decide +kernel
theorem dX10_isSeen_33 : decode cX10_isSeen 33 = .ok (.invokevirtual 130, 3) := by decide +kernel
theorem dX10_isSeen_36 : decode cX10_isSeen 36 = .ok (.aload_n 0, 1) := by decide +kernel
theorem dX10_isSeen_37 : decode cX10_isSeen 37 = .ok (.getfield 7, 3) := by decide +kernel
theorem dX10_isSeen_40 : decode cX10_isSeen 40 = .ok (.iload_n 3, 1) := by decide +kernel
theorem dX10_isSeen_41 : decode cX10_isSeen 41 = .ok (.iconst 1, 1) := by decide +kernel
theorem dX10_isSeen_42 : decode cX10_isSeen 42 = .ok (.iadd, 1) := by decide +kernel
theorem dX10_isSeen_43 : decode cX10_isSeen 43 = .ok (.iaload, 1) := by decide +kernel
theorem dX10_isSeen_44 : decode cX10_isSeen 44 = .ok (.if_icmp .ne 36, 3) := by decide +kernel
theorem dX10_isSeen_47 : decode cX10_isSeen 47 = .ok (.aload_n 0, 1) := by decide +kernel
theorem dX10_isSeen_48 : decode cX10_isSeen 48 = .ok (.aload_n 0, 1) := by decide +kernel
theorem dX10_isSeen_49 : decode cX10_isSeen 49 = .ok (.getfield 7, 3) := by decide +kernel
theorem dX10_isSeen_52 : decode cX10_isSeen 52 = .ok (.iload_n 3, 1) := by decide +kernel
theorem dX10_isSeen_53 : decode cX10_isSeen 53 = .ok (.iaload, 1) := by decide +kernel
theorem dX10_isSeen_54 : decode cX10_isSeen 54 = .ok (.invokevirtual 133, 3) := by decide +kernel
theorem dX10_isSeen_57 : decode cX10_isSeen 57 = .ok (.aload_n 0, 1) := by decide +kernel
theorem dX10_isSeen_58 : decode cX10_isSeen 58 = .ok (.getfield 7, 3) := by decide +kernel
theorem dX10_isSeen_61 : decode cX10_isSeen 61 = .ok (.iload_n 3, 1) := by decide +kernel
theorem dX10_isSeen_62 : decode cX10_isSeen 62 = .ok (.iconst 2, 1) := by decide +kernel
theorem dX10_isSeen_63 : decode cX10_isSeen 63 = .ok (.iadd, 1) := by decide +kernel
theorem dX10_isSeen_64 : decode cX10_isSeen 64 = .ok (.iaload, 1) := by decide +kernel
theorem dX10_isSeen_65 : decode cX10_isSeen 65 = .ok (.ifCond .ne 7, 3) := by decide +kernel
theorem dX10_isSeen_68 : decode cX10_isSeen 68 = .ok (.iconst 1, 1) := by decide +kernel
theorem dX10_isSeen_69 : decode cX10_isSeen 69 = .ok (.goto 4, 3) := by decide +kernel
theorem dX10_isSeen_72 : decode cX10_isSeen 72 = .ok (.iconst 0, 1) := by decide +kernel
theorem dX10_isSeen_73 : decode cX10_isSeen 73 = .ok (.if_icmp .ne 7, 3) := by decide +kernel
theorem dX10_isSeen_76 : decode cX10_isSeen 76 = .ok (.iconst 1, 1) := by decide +kernel
theorem dX10_isSeen_77 : decode cX10_isSeen 77 = .ok (.goto 4, 3) := by decide +kernel
theorem dX10_isSeen_80 : decode cX10_isSeen 80 = .ok (.iconst 0, 1) := by decide +kernel
theorem dX10_isSeen_81 : decode cX10_isSeen 81 = .ok (.istore_n 1, 1) := by decide +kernel
theorem dX10_isSeen_82 : decode cX10_isSeen 82 = .ok (.iinc 2 1, 3) := by decide +kernel
theorem dX10_isSeen_85 : decode cX10_isSeen 85 = .ok (.goto (-81), 3) := by decide +kernel
theorem dX10_isSeen_88 : decode cX10_isSeen 88 = .ok (.iload_n 1, 1) := by decide +kernel
theorem dX10_isSeen_89 : decode cX10_isSeen 89 = .ok (.ireturn, 1) := by decide +kernel
theorem dX10_fitting_0 : decode cX10_fitting 0 = .ok (.iload_n 1, 1) := by decide +kernel
theorem dX10_fitting_1 : decode cX10_fitting 1 = .ok (.i2l, 1) := by decide +kernel
theorem dX10_fitting_2 : decode cX10_fitting 2 = .ok (.lconst 0, 1) := by decide +kernel
theorem dX10_fitting_3 : decode cX10_fitting 3 = .ok (.ldc2_w 329, 3) := by decide +kernel
theorem dX10_fitting_6 : decode cX10_fitting 6 = .ok (.invokestatic 101, 3) := by decide +kernel
theorem dX10_fitting_9 : decode cX10_fitting 9 = .ok (.ifCond .ne 5, 3) := by decide +kernel
theorem dX10_fitting_12 : decode cX10_fitting 12 = .ok (.iconst (-1), 1) := by decide +kernel
theorem dX10_fitting_13 : decode cX10_fitting 13 = .ok (.ireturn, 1) := by decide +kernel
theorem dX10_fitting_14 : decode cX10_fitting 14 = .ok (.iconst 0, 1) := by decide +kernel
theorem dX10_fitting_15 : decode cX10_fitting 15 = .ok (.istore_n 2, 1) := by decide +kernel
theorem dX10_fitting_16 : decode cX10_fitting 16 = .ok (.bipush (-9), 2) := by decide +kernel
theorem dX10_fitting_18 : decode cX10_fitting 18 = .ok (.istore_n 3, 1) := by decide +kernel
theorem dX10_fitting_19 : decode cX10_fitting 19 = .ok (.bipush (-9), 2) := by decide +kernel
theorem dX10_fitting_21 : decode cX10_fitting 21 = .ok (.istore 4, 2) := by decide +kernel
theorem dX10_fitting_23 : decode cX10_fitting 23 = .ok (.iconst 0, 1) := by decide +kernel
theorem dX10_fitting_24 : decode cX10_fitting 24 = .ok (.istore 5, 2) := by decide +kernel
theorem dX10_fitting_26 : decode cX10_fitting 26 = .ok (.iload 5, 2) := by decide +kernel
theorem dX10_fitting_28 : decode cX10_fitting 28 = .ok (.sipush 5000, 3) := by decide +kernel
theorem dX10_fitting_31 : decode cX10_fitting 31 = .ok (.if_icmp .ge 43, 3) := by decide +kernel
theorem dX10_fitting_34 : decode cX10_fitting 34 = .ok (.aload_n 0, 1) := by decide +kernel
theorem dX10_fitting_35 : decode cX10_fitting 35 = .ok (.iload 5, 2) := by decide +kernel
theorem dX10_fitting_37 : decode cX10_fitting 37 = .ok (.invokevirtual 157, 3) := by decide +kernel
theorem dX10_fitting_40 : decode cX10_fitting 40 = .ok (.ifCond .eq 28, 3) := by decide +kernel
theorem dX10_fitting_43 : decode cX10_fitting 43 = .ok (.aload_n 0, 1) := by decide +kernel
theorem dX10_fitting_44 : decode cX10_fitting 44 = .ok (.invokevirtual 355, 3) := by decide +kernel
theorem dX10_fitting_47 : decode cX10_fitting 47 = .ok (.ifCond .eq 21, 3) := by decide +kernel
theorem dX10_fitting_50 : decode cX10_fitting 50 = .ok (.iload_n 2, 1) := by decide +kernel
theorem dX10_fitting_51 : decode cX10_fitting 51 = .ok (.ifCond .ne 8, 3) := by decide +kernel
theorem dX10_fitting_54 : decode cX10_fitting 54 = .ok (.iload 5, 2) := by decide +kernel
theorem dX10_fitting_56 : decode cX10_fitting 56 = .ok (.goto 4, 3) := by decide +kernel
theorem dX10_fitting_59 : decode cX10_fitting 59 = .ok (.iload_n 3, 1) := by decide +kernel
theorem dX10_fitting_60 : decode cX10_fitting 60 = .ok (.istore_n 3, 1) := by decide +kernel
theorem dX10_fitting_61 : decode cX10_fitting 61 = .ok (.iload 5, 2) := by decide +kernel
theorem dX10_fitting_63 : decode cX10_fitting 63 = .ok (.istore 4, 2) := by decide +kernel
theorem dX10_fitting_65 : decode cX10_fitting 65 = .ok (.iinc 2 1, 3) := by decide +kernel
theorem dX10_fitting_68 : decode cX10_fitting 68 = .ok (.iinc 5 1, 3) := by decide +kernel
theorem dX10_fitting_71 : decode cX10_fitting 71 = .ok (.goto (-45), 3) := by decide +kernel
theorem dX10_fitting_74 : decode cX10_fitting 74 = .ok (.iload_n 1, 1) := by decide +kernel
theorem dX10_fitting_75 : decode cX10_fitting 75 = .ok (.ifCond .ne 7, 3) := by decide +kernel
theorem dX10_fitting_78 : decode cX10_fitting 78 = .ok (.iload_n 2, 1) := by decide +kernel
theorem dX10_fitting_79 : decode cX10_fitting 79 = .ok (.goto 14, 3) := by decide +kernel
theorem dX10_fitting_82 : decode cX10_fitting 82 = .ok (.iload_n 1, 1) := by decide +kernel
theorem dX10_fitting_83 : decode cX10_fitting 83 = .ok (.iconst 1, 1) := by decide +kernel
theorem dX10_fitting_84 : decode cX10_fitting 84 = .ok (.if_icmp .ne 7, 3) := by decide +kernel
theorem dX10_fitting_87 : decode cX10_fitting 87 = .ok (.iload_n 3, 1) := by decide +kernel
theorem dX10_fitting_88 : decode cX10_fitting 88 = .ok (.goto 5, 3) := by decide +kernel
theorem dX10_fitting_91 : decode cX10_fitting 91 = .ok (.iload 4, 2) := by decide +kernel
theorem dX10_fitting_93 : decode cX10_fitting 93 = .ok (.ireturn, 1) := by decide +kernel
theorem dX10_ownPages_0 : decode cX10_ownPages 0 = .ok (.iconst 0, 1) := by decide +kernel
theorem dX10_ownPages_1 : decode cX10_ownPages 1 = .ok (.istore_n 1, 1) := by decide +kernel
theorem dX10_ownPages_2 : decode cX10_ownPages 2 = .ok (.iload_n 1, 1) := by decide +kernel
theorem dX10_ownPages_3 : decode cX10_ownPages 3 = .ok (.iconst 2, 1) := by decide +kernel
theorem dX10_ownPages_4 : decode cX10_ownPages 4 = .ok (.aload_n 0, 1) := by decide +kernel
theorem dX10_ownPages_5 : decode cX10_ownPages 5 = .ok (.getfield 78, 3) := by decide +kernel
theorem dX10_ownPages_8 : decode cX10_ownPages 8 = .ok (.imul, 1) := by decide +kernel
theorem dX10_ownPages_9 : decode cX10_ownPages 9 = .ok (.if_icmp .ge 17, 3) := by decide +kernel
theorem dX10_ownPages_12 : decode cX10_ownPages 12 = .ok (.aload_n 0, 1) := by decide +kernel
theorem dX10_ownPages_13 : decode cX10_ownPages 13 = .ok (.iload_n 1, 1) := by decide +kernel
theorem dX10_ownPages_14 : decode cX10_ownPages 14 = .ok (.invokevirtual 323, 3) := by decide +kernel
theorem dX10_ownPages_17 : decode cX10_ownPages 17 = .ok (.ifCond .eq 9, 3) := by decide +kernel
theorem dX10_ownPages_20 : decode cX10_ownPages 20 = .ok (.iinc 1 1, 3) := by decide +kernel
theorem dX10_ownPages_23 : decode cX10_ownPages 23 = .ok (.goto (-21), 3) := by decide +kernel
theorem dX10_ownPages_26 : decode cX10_ownPages 26 = .ok (.iload_n 1, 1) := by decide +kernel
theorem dX10_ownPages_27 : decode cX10_ownPages 27 = .ok (.ireturn, 1) := by decide +kernel
theorem dX10_readsBy_0 : decode cX10_readsBy 0 = .ok (.aload_n 0, 1) := by decide +kernel
theorem dX10_readsBy_1 : decode cX10_readsBy 1 = .ok (.iload_n 1, 1) := by decide +kernel
theorem dX10_readsBy_2 : decode cX10_readsBy 2 = .ok (.invokevirtual 157, 3) := by decide +kernel
theorem dX10_readsBy_5 : decode cX10_readsBy 5 = .ok (.ifCond .eq 10, 3) := by decide +kernel
theorem dX10_readsBy_8 : decode cX10_readsBy 8 = .ok (.aload_n 0, 1) := by decide +kernel
theorem dX10_readsBy_9 : decode cX10_readsBy 9 = .ok (.invokevirtual 358, 3) := by decide +kernel
theorem dX10_readsBy_12 : decode cX10_readsBy 12 = .ok (.goto 4, 3) := by decide +kernel
theorem dX10_readsBy_15 : decode cX10_readsBy 15 = .ok (.iconst (-1), 1) := by decide +kernel
theorem dX10_readsBy_16 : decode cX10_readsBy 16 = .ok (.ireturn, 1) := by decide +kernel
theorem dX10_edgesToCut_0 : decode cX10_edgesToCut 0 = .ok (.iconst 0, 1) := by decide +kernel
theorem dX10_edgesToCut_1 : decode cX10_edgesToCut 1 = .ok (.istore_n 1, 1) := by decide +kernel
theorem dX10_edgesToCut_2 : decode cX10_edgesToCut 2 = .ok (.iconst 0, 1) := by decide +kernel
theorem dX10_edgesToCut_3 : decode cX10_edgesToCut 3 = .ok (.istore_n 2, 1) := by decide +kernel
theorem dX10_edgesToCut_4 : decode cX10_edgesToCut 4 = .ok (.iload_n 2, 1) := by decide +kernel
theorem dX10_edgesToCut_5 : decode cX10_edgesToCut 5 = .ok (.aload_n 0, 1) := by decide +kernel
theorem dX10_edgesToCut_6 : decode cX10_edgesToCut 6 = .ok (.getfield 78, 3) := by decide +kernel
theorem dX10_edgesToCut_9 : decode cX10_edgesToCut 9 = .ok (.if_icmp .ge 60, 3) := by decide +kernel
theorem dX10_edgesToCut_12 : decode cX10_edgesToCut 12 = .ok (.iload_n 2, 1) := by decide +kernel
theorem dX10_edgesToCut_13 : decode cX10_edgesToCut 13 = .ok (.iconst 1, 1) := by decide +kernel
theorem dX10_edgesToCut_14 : decode cX10_edgesToCut 14 = .ok (.iadd, 1) := by decide +kernel
theorem dX10_edgesToCut_15 : decode cX10_edgesToCut 15 = .ok (.istore_n 3, 1) := by decide +kernel
theorem dX10_edgesToCut_16 : decode cX10_edgesToCut 16 = .ok (.iload_n 3, 1) := by decide +kernel
theorem dX10_edgesToCut_17 : decode cX10_edgesToCut 17 = .ok (.aload_n 0, 1) := by decide +kernel
theorem dX10_edgesToCut_18 : decode cX10_edgesToCut 18 = .ok (.getfield 78, 3) := by decide +kernel
theorem dX10_edgesToCut_21 : decode cX10_edgesToCut 21 = .ok (.if_icmp .ge 42, 3) := by decide +kernel
theorem dX10_edgesToCut_24 : decode cX10_edgesToCut 24 = .ok (.aload_n 0, 1) := by decide +kernel
theorem dX10_edgesToCut_25 : decode cX10_edgesToCut 25 = .ok (.iload_n 2, 1) := by decide +kernel
theorem dX10_edgesToCut_26 : decode cX10_edgesToCut 26 = .ok (.iload_n 3, 1) := by decide +kernel
theorem dX10_edgesToCut_27 : decode cX10_edgesToCut 27 = .ok (.invokevirtual 116, 3) := by decide +kernel
theorem dX10_edgesToCut_30 : decode cX10_edgesToCut 30 = .ok (.istore 4, 2) := by decide +kernel
theorem dX10_edgesToCut_32 : decode cX10_edgesToCut 32 = .ok (.iload_n 1, 1) := by decide +kernel
theorem dX10_edgesToCut_33 : decode cX10_edgesToCut 33 = .ok (.iload 4, 2) := by decide +kernel
theorem dX10_edgesToCut_35 : decode cX10_edgesToCut 35 = .ok (.ifCond .lt 19, 3) := by decide +kernel
theorem dX10_edgesToCut_38 : decode cX10_edgesToCut 38 = .ok (.iload 4, 2) := by decide +kernel
theorem dX10_edgesToCut_40 : decode cX10_edgesToCut 40 = .ok (.aload_n 0, 1) := by decide +kernel
theorem dX10_edgesToCut_41 : decode cX10_edgesToCut 41 = .ok (.invokevirtual 124, 3) := by decide +kernel
theorem dX10_edgesToCut_44 : decode cX10_edgesToCut 44 = .ok (.if_icmp .eq 10, 3) := by decide +kernel
theorem dX10_edgesToCut_47 : decode cX10_edgesToCut 47 = .ok (.iconst 1, 1) := by decide +kernel
theorem dX10_edgesToCut_48 : decode cX10_edgesToCut 48 = .ok (.iload 4, 2) := by decide +kernel
theorem dX10_edgesToCut_50 : decode cX10_edgesToCut 50 = .ok (.ishl, 1) := by decide +kernel
theorem dX10_edgesToCut_51 : decode cX10_edgesToCut 51 = .ok (.goto 4, 3) := by decide +kernel
theorem dX10_edgesToCut_54 : decode cX10_edgesToCut 54 = .ok (.iconst 0, 1) := by decide +kernel
theorem dX10_edgesToCut_55 : decode cX10_edgesToCut 55 = .ok (.ior, 1) := by decide +kernel
theorem dX10_edgesToCut_56 : decode cX10_edgesToCut 56 = .ok (.istore_n 1, 1) := by decide +kernel
theorem dX10_edgesToCut_57 : decode cX10_edgesToCut 57 = .ok (.iinc 3 1, 3) := by decide +kernel
theorem dX10_edgesToCut_60 : decode cX10_edgesToCut 60 = .ok (.goto (-44), 3) := by decide +kernel
theorem dX10_edgesToCut_63 : decode cX10_edgesToCut 63 = .ok (.iinc 2 1, 3) := by decide +kernel
theorem dX10_edgesToCut_66 : decode cX10_edgesToCut 66 = .ok (.goto (-62), 3) := by decide +kernel
theorem dX10_edgesToCut_69 : decode cX10_edgesToCut 69 = .ok (.iload_n 1, 1) := by decide +kernel
theorem dX10_edgesToCut_70 : decode cX10_edgesToCut 70 = .ok (.ireturn, 1) := by decide +kernel
theorem dX10_cutsFor_0 : decode cX10_cutsFor 0 = .ok (.aload_n 0, 1) := by decide +kernel
theorem dX10_cutsFor_1 : decode cX10_cutsFor 1 = .ok (.iload_n 1, 1) := by decide +kernel
theorem dX10_cutsFor_2 : decode cX10_cutsFor 2 = .ok (.invokevirtual 157, 3) := by decide +kernel
theorem dX10_cutsFor_5 : decode cX10_cutsFor 5 = .ok (.ifCond .eq 10, 3) := by decide +kernel
theorem dX10_cutsFor_8 : decode cX10_cutsFor 8 = .ok (.aload_n 0, 1) := by decide +kernel
theorem dX10_cutsFor_9 : decode cX10_cutsFor 9 = .ok (.invokevirtual 361, 3) := by decide +kernel
theorem dX10_cutsFor_12 : decode cX10_cutsFor 12 = .ok (.goto 4, 3) := by decide +kernel
theorem dX10_cutsFor_15 : decode cX10_cutsFor 15 = .ok (.iconst (-1), 1) := by decide +kernel
theorem dX10_cutsFor_16 : decode cX10_cutsFor 16 = .ok (.ireturn, 1) := by decide +kernel
theorem dX10_best_0 : decode cX10_best 0 = .ok (.iload_n 1, 1) := by decide +kernel
theorem dX10_best_1 : decode cX10_best 1 = .ok (.i2l, 1) := by decide +kernel
theorem dX10_best_2 : decode cX10_best 2 = .ok (.lconst 0, 1) := by decide +kernel
theorem dX10_best_3 : decode cX10_best 3 = .ok (.ldc2_w 329, 3) := by decide +kernel
theorem dX10_best_6 : decode cX10_best 6 = .ok (.invokestatic 101, 3) := by decide +kernel
theorem dX10_best_9 : decode cX10_best 9 = .ok (.ifCond .ne 5, 3) := by decide +kernel
theorem dX10_best_12 : decode cX10_best 12 = .ok (.iconst (-1), 1) := by decide +kernel
theorem dX10_best_13 : decode cX10_best 13 = .ok (.ireturn, 1) := by decide +kernel
theorem dX10_best_14 : decode cX10_best 14 = .ok (.iconst (-1), 1) := by decide +kernel
theorem dX10_best_15 : decode cX10_best 15 = .ok (.istore_n 2, 1) := by decide +kernel
theorem dX10_best_16 : decode cX10_best 16 = .ok (.iconst 0, 1) := by decide +kernel
theorem dX10_best_17 : decode cX10_best 17 = .ok (.istore_n 3, 1) := by decide +kernel
theorem dX10_best_18 : decode cX10_best 18 = .ok (.iconst 0, 1) := by decide +kernel
theorem dX10_best_19 : decode cX10_best 19 = .ok (.istore 4, 2) := by decide +kernel
theorem dX10_best_21 : decode cX10_best 21 = .ok (.iconst 0, 1) := by decide +kernel
theorem dX10_best_22 : decode cX10_best 22 = .ok (.istore 5, 2) := by decide +kernel
theorem dX10_best_24 : decode cX10_best 24 = .ok (.iload 5, 2) := by decide +kernel
theorem dX10_best_26 : decode cX10_best 26 = .ok (.sipush 5000, 3) := by decide +kernel
theorem dX10_best_29 : decode cX10_best 29 = .ok (.if_icmp .ge 101, 3) := by decide +kernel
theorem dX10_best_32 : decode cX10_best 32 = .ok (.aload_n 0, 1) := by decide +kernel
theorem dX10_best_33 : decode cX10_best 33 = .ok (.iload 5, 2) := by decide +kernel
theorem dX10_best_35 : decode cX10_best 35 = .ok (.invokevirtual 157, 3) := by decide +kernel
theorem dX10_best_38 : decode cX10_best 38 = .ok (.ifCond .eq 86, 3) := by decide +kernel
theorem dX10_best_41 : decode cX10_best 41 = .ok (.aload_n 0, 1) := by decide +kernel
theorem dX10_best_42 : decode cX10_best 42 = .ok (.invokevirtual 361, 3) := by decide +kernel
theorem dX10_best_45 : decode cX10_best 45 = .ok (.invokestatic 170, 3) := by decide +kernel
theorem dX10_best_48 : decode cX10_best 48 = .ok (.istore 6, 2) := by decide +kernel
theorem dX10_best_50 : decode cX10_best 50 = .ok (.aload_n 0, 1) := by decide +kernel
theorem dX10_best_51 : decode cX10_best 51 = .ok (.invokevirtual 358, 3) := by decide +kernel
theorem dX10_best_54 : decode cX10_best 54 = .ok (.istore 7, 2) := by decide +kernel
theorem dX10_best_56 : decode cX10_best 56 = .ok (.iload_n 2, 1) := by decide +kernel
theorem dX10_best_57 : decode cX10_best 57 = .ok (.ifCond .lt 22, 3) := by decide +kernel
theorem dX10_best_60 : decode cX10_best 60 = .ok (.iload 6, 2) := by decide +kernel
theorem dX10_best_62 : decode cX10_best 62 = .ok (.iload_n 3, 1) := by decide +kernel
theorem dX10_best_63 : decode cX10_best 63 = .ok (.if_icmp .lt 16, 3) := by decide +kernel
theorem dX10_best_66 : decode cX10_best 66 = .ok (.iload 6, 2) := by decide +kernel
theorem dX10_best_68 : decode cX10_best 68 = .ok (.iload_n 3, 1) := by decide +kernel
theorem dX10_best_69 : decode cX10_best 69 = .ok (.if_icmp .ne 14, 3) := by decide +kernel
theorem dX10_best_72 : decode cX10_best 72 = .ok (.iload 7, 2) := by decide +kernel
theorem dX10_best_74 : decode cX10_best 74 = .ok (.iload 4, 2) := by decide +kernel
theorem dX10_best_76 : decode cX10_best 76 = .ok (.if_icmp .le 7, 3) := by decide +kernel
theorem dX10_best_79 : decode cX10_best 79 = .ok (.iconst 1, 1) := by decide +kernel
theorem dX10_best_80 : decode cX10_best 80 = .ok (.goto 4, 3) := by decide +kernel
theorem dX10_best_83 : decode cX10_best 83 = .ok (.iconst 0, 1) := by decide +kernel
theorem dX10_best_84 : decode cX10_best 84 = .ok (.istore 8, 2) := by decide +kernel
theorem dX10_best_86 : decode cX10_best 86 = .ok (.iload 8, 2) := by decide +kernel
theorem dX10_best_88 : decode cX10_best 88 = .ok (.ifCond .eq 8, 3) := by decide +kernel
theorem dX10_best_91 : decode cX10_best 91 = .ok (.iload 5, 2) := by decide +kernel
theorem dX10_best_93 : decode cX10_best 93 = .ok (.goto 4, 3) := by decide +kernel
theorem dX10_best_96 : decode cX10_best 96 = .ok (.iload_n 2, 1) := by decide +kernel
theorem dX10_best_97 : decode cX10_best 97 = .ok (.istore_n 2, 1) := by decide +kernel
theorem dX10_best_98 : decode cX10_best 98 = .ok (.iload 8, 2) := by decide +kernel
theorem dX10_best_100 : decode cX10_best 100 = .ok (.ifCond .eq 8, 3) := by decide +kernel
theorem dX10_best_103 : decode cX10_best 103 = .ok (.iload 6, 2) := by decide +kernel
theorem dX10_best_105 : decode cX10_best 105 = .ok (.goto 4, 3) := by decide +kernel
theorem dX10_best_108 : decode cX10_best 108 = .ok (.iload_n 3, 1) := by decide +kernel
theorem dX10_best_109 : decode cX10_best 109 = .ok (.istore_n 3, 1) := by decide +kernel
theorem dX10_best_110 : decode cX10_best 110 = .ok (.iload 8, 2) := by decide +kernel
theorem dX10_best_112 : decode cX10_best 112 = .ok (.ifCond .eq 8, 3) := by decide +kernel
theorem dX10_best_115 : decode cX10_best 115 = .ok (.iload 7, 2) := by decide +kernel
theorem dX10_best_117 : decode cX10_best 117 = .ok (.goto 5, 3) := by decide +kernel
theorem dX10_best_120 : decode cX10_best 120 = .ok (.iload 4, 2) := by decide +kernel
theorem dX10_best_122 : decode cX10_best 122 = .ok (.istore 4, 2) := by decide +kernel
theorem dX10_best_124 : decode cX10_best 124 = .ok (.iinc 5 1, 3) := by decide +kernel
theorem dX10_best_127 : decode cX10_best 127 = .ok (.goto (-103), 3) := by decide +kernel
theorem dX10_best_130 : decode cX10_best 130 = .ok (.iload_n 1, 1) := by decide +kernel
theorem dX10_best_131 : decode cX10_best 131 = .ok (.ifCond .ne 7, 3) := by decide +kernel
theorem dX10_best_134 : decode cX10_best 134 = .ok (.iload_n 2, 1) := by decide +kernel
theorem dX10_best_135 : decode cX10_best 135 = .ok (.goto 14, 3) := by decide +kernel
theorem dX10_best_138 : decode cX10_best 138 = .ok (.iload_n 1, 1) := by decide +kernel
theorem dX10_best_139 : decode cX10_best 139 = .ok (.iconst 1, 1) := by decide +kernel
theorem dX10_best_140 : decode cX10_best 140 = .ok (.if_icmp .ne 7, 3) := by decide +kernel
theorem dX10_best_143 : decode cX10_best 143 = .ok (.iload_n 3, 1) := by decide +kernel
theorem dX10_best_144 : decode cX10_best 144 = .ok (.goto 5, 3) := by decide +kernel
theorem dX10_best_147 : decode cX10_best 147 = .ok (.iload 4, 2) := by decide +kernel
theorem dX10_best_149 : decode cX10_best 149 = .ok (.ireturn, 1) := by decide +kernel
