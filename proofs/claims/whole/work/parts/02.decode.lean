theorem dX0_init_0 : decode cX0_init 0 = .ok (.aload_n 0, 1) := by decide +kernel
theorem dX0_init_1 : decode cX0_init 1 = .ok (.invokespecial 3, 3) := by decide +kernel
theorem dX0_init_4 : decode cX0_init 4 = .ok (.aload_n 0, 1) := by decide +kernel
theorem dX0_init_5 : decode cX0_init 5 = .ok (.bipush 40, 2) := by decide +kernel
theorem dX0_init_7 : decode cX0_init 7 = .ok (.newarray .long, 2) := by decide +kernel
theorem dX0_init_9 : decode cX0_init 9 = .ok (.putfield 9, 3) := by decide +kernel
theorem dX0_init_12 : decode cX0_init 12 = .ok (.aload_n 0, 1) := by decide +kernel
theorem dX0_init_13 : decode cX0_init 13 = .ok (.aload_n 1, 1) := by decide +kernel
theorem dX0_init_14 : decode cX0_init 14 = .ok (.putfield 15, 3) := by decide +kernel
theorem dX0_init_17 : decode cX0_init 17 = .ok (.return_, 1) := by decide +kernel
theorem dX0_at_0 : decode cX0_at 0 = .ok (.iload_n 1, 1) := by decide +kernel
theorem dX0_at_1 : decode cX0_at 1 = .ok (.ifCond .lt 29, 3) := by decide +kernel
theorem dX0_at_4 : decode cX0_at 4 = .ok (.iload_n 1, 1) := by decide +kernel
theorem dX0_at_5 : decode cX0_at 5 = .ok (.aload_n 0, 1) := by decide +kernel
theorem dX0_at_6 : decode cX0_at 6 = .ok (.getfield 19, 3) := by decide +kernel
theorem dX0_at_9 : decode cX0_at 9 = .ok (.if_icmp .ge 21, 3) := by decide +kernel
theorem dX0_at_12 : decode cX0_at 12 = .ok (.iload_n 1, 1) := by decide +kernel
theorem dX0_at_13 : decode cX0_at 13 = .ok (.aload_n 0, 1) := by decide +kernel
theorem dX0_at_14 : decode cX0_at 14 = .ok (.getfield 9, 3) := by decide +kernel
theorem dX0_at_17 : decode cX0_at 17 = .ok (.arraylength, 1) := by decide +kernel
theorem dX0_at_18 : decode cX0_at 18 = .ok (.if_icmp .ge 12, 3) := by decide +kernel
theorem dX0_at_21 : decode cX0_at 21 = .ok (.aload_n 0, 1) := by decide +kernel
theorem dX0_at_22 : decode cX0_at 22 = .ok (.getfield 9, 3) := by decide +kernel
theorem dX0_at_25 : decode cX0_at 25 = .ok (.iload_n 1, 1) := by decide +kernel
theorem dX0_at_26 : decode cX0_at 26 = .ok (.laload, 1) := by decide +kernel
theorem dX0_at_27 : decode cX0_at 27 = .ok (.goto 4, 3) := by decide +kernel
theorem dX0_at_30 : decode cX0_at 30 = .ok (.lconst 0, 1) := by decide +kernel
theorem dX0_at_31 : decode cX0_at 31 = .ok (.lreturn, 1) := by decide +kernel
theorem dX0_find_0 : decode cX0_find 0 = .ok (.aload_n 0, 1) := by decide +kernel
theorem dX0_find_1 : decode cX0_find 1 = .ok (.iconst 0, 1) := by decide +kernel
theorem dX0_find_2 : decode cX0_find 2 = .ok (.putfield 19, 3) := by decide +kernel
theorem dX0_find_5 : decode cX0_find 5 = .ok (.aload_n 0, 1) := by decide +kernel
theorem dX0_find_6 : decode cX0_find 6 = .ok (.lload_n 1, 1) := by decide +kernel
theorem dX0_find_7 : decode cX0_find 7 = .ok (.putfield 23, 3) := by decide +kernel
theorem dX0_find_10 : decode cX0_find 10 = .ok (.aload_n 0, 1) := by decide +kernel
theorem dX0_find_11 : decode cX0_find 11 = .ok (.getfield 15, 3) := by decide +kernel
theorem dX0_find_14 : decode cX0_find 14 = .ok (.lload_n 1, 1) := by decide +kernel
theorem dX0_find_15 : decode cX0_find 15 = .ok (.invokevirtual 27, 3) := by decide +kernel
theorem dX0_find_18 : decode cX0_find 18 = .ok (.lstore_n 3, 1) := by decide +kernel
theorem dX0_find_19 : decode cX0_find 19 = .ok (.ldc2_w 33, 3) := by decide +kernel
theorem dX0_find_22 : decode cX0_find 22 = .ok (.lstore 5, 2) := by decide +kernel
theorem dX0_find_24 : decode cX0_find 24 = .ok (.lload 5, 2) := by decide +kernel
theorem dX0_find_26 : decode cX0_find 26 = .ok (.ldc2_w 35, 3) := by decide +kernel
theorem dX0_find_29 : decode cX0_find 29 = .ok (.lcmp, 1) := by decide +kernel
theorem dX0_find_30 : decode cX0_find 30 = .ok (.ifCond .ge 135, 3) := by decide +kernel
theorem dX0_find_33 : decode cX0_find 33 = .ok (.lload 5, 2) := by decide +kernel
theorem dX0_find_35 : decode cX0_find 35 = .ok (.lload 5, 2) := by decide +kernel
theorem dX0_find_37 : decode cX0_find 37 = .ok (.lmul, 1) := by decide +kernel
theorem dX0_find_38 : decode cX0_find 38 = .ok (.lload_n 3, 1) := by decide +kernel
theorem dX0_find_39 : decode cX0_find 39 = .ok (.lcmp, 1) := by decide +kernel
theorem dX0_find_40 : decode cX0_find 40 = .ok (.ifCond .gt 125, 3) := by decide +kernel
theorem dX0_find_43 : decode cX0_find 43 = .ok (.lload 5, 2) := by decide +kernel
theorem dX0_find_45 : decode cX0_find 45 = .ok (.lload_n 3, 1) := by decide +kernel
theorem dX0_find_46 : decode cX0_find 46 = .ok (.invokestatic 37, 3) := by decide +kernel
theorem dX0_find_49 : decode cX0_find 49 = .ok (.ifCond .eq 15, 3) := by decide +kernel
theorem dX0_find_52 : decode cX0_find 52 = .ok (.aload_n 0, 1) := by decide +kernel
theorem dX0_find_53 : decode cX0_find 53 = .ok (.getfield 15, 3) := by decide +kernel
theorem dX0_find_56 : decode cX0_find 56 = .ok (.lload 5, 2) := by decide +kernel
theorem dX0_find_58 : decode cX0_find 58 = .ok (.invokevirtual 41, 3) := by decide +kernel
theorem dX0_find_61 : decode cX0_find 61 = .ok (.goto 4, 3) := by decide +kernel
theorem dX0_find_64 : decode cX0_find 64 = .ok (.lconst 0, 1) := by decide +kernel
theorem dX0_find_65 : decode cX0_find 65 = .ok (.lstore 7, 2) := by decide +kernel
theorem dX0_find_67 : decode cX0_find 67 = .ok (.iconst 0, 1) := by decide +kernel
theorem dX0_find_68 : decode cX0_find 68 = .ok (.istore 9, 2) := by decide +kernel
theorem dX0_find_70 : decode cX0_find 70 = .ok (.iload 9, 2) := by decide +kernel
theorem dX0_find_72 : decode cX0_find 72 = .ok (.aload_n 0, 1) := by decide +kernel
theorem dX0_find_73 : decode cX0_find 73 = .ok (.getfield 9, 3) := by decide +kernel
theorem dX0_find_76 : decode cX0_find 76 = .ok (.arraylength, 1) := by decide +kernel
theorem dX0_find_77 : decode cX0_find 77 = .ok (.if_icmp .ge 64, 3) := by decide +kernel
theorem dX0_find_80 : decode cX0_find 80 = .ok (.lload 5, 2) := by decide +kernel
theorem dX0_find_82 : decode cX0_find 82 = .ok (.lload_n 3, 1) := by decide +kernel
theorem dX0_find_83 : decode cX0_find 83 = .ok (.invokestatic 37, 3) := by decide +kernel
theorem dX0_find_86 : decode cX0_find 86 = .ok (.ifCond .eq 55, 3) := by decide +kernel
theorem dX0_find_89 : decode cX0_find 89 = .ok (.aload_n 0, 1) := by decide +kernel
theorem dX0_find_90 : decode cX0_find 90 = .ok (.aload_n 0, 1) := by decide +kernel
theorem dX0_find_91 : decode cX0_find 91 = .ok (.getfield 15, 3) := by decide +kernel
theorem dX0_find_94 : decode cX0_find 94 = .ok (.lload 7, 2) := by decide +kernel
theorem dX0_find_96 : decode cX0_find 96 = .ok (.aload_n 0, 1) := by decide +kernel
theorem dX0_find_97 : decode cX0_find 97 = .ok (.getfield 23, 3) := by decide +kernel
theorem dX0_find_100 : decode cX0_find 100 = .ok (.invokevirtual 44, 3) := by decide +kernel
theorem dX0_find_103 : decode cX0_find 103 = .ok (.ifCond .eq 8, 3) := by decide +kernel
theorem dX0_find_106 : decode cX0_find 106 = .ok (.lload 7, 2) := by decide +kernel
theorem dX0_find_108 : decode cX0_find 108 = .ok (.goto 12, 3) := by decide +kernel
theorem dX0_find_111 : decode cX0_find 111 = .ok (.aload_n 0, 1) := by decide +kernel
theorem dX0_find_112 : decode cX0_find 112 = .ok (.getfield 15, 3) := by decide +kernel
theorem dX0_find_115 : decode cX0_find 115 = .ok (.lload 7, 2) := by decide +kernel
theorem dX0_find_117 : decode cX0_find 117 = .ok (.invokevirtual 47, 3) := by decide +kernel
theorem dX0_find_120 : decode cX0_find 120 = .ok (.invokevirtual 50, 3) := by decide +kernel
theorem dX0_find_123 : decode cX0_find 123 = .ok (.aload_n 0, 1) := by decide +kernel
theorem dX0_find_124 : decode cX0_find 124 = .ok (.getfield 15, 3) := by decide +kernel
theorem dX0_find_127 : decode cX0_find 127 = .ok (.aload_n 0, 1) := by decide +kernel
theorem dX0_find_128 : decode cX0_find 128 = .ok (.getfield 23, 3) := by decide +kernel
theorem dX0_find_131 : decode cX0_find 131 = .ok (.invokevirtual 27, 3) := by decide +kernel
theorem dX0_find_134 : decode cX0_find 134 = .ok (.lstore_n 3, 1) := by decide +kernel
theorem dX0_find_135 : decode cX0_find 135 = .ok (.iinc 9 1, 3) := by decide +kernel
theorem dX0_find_138 : decode cX0_find 138 = .ok (.goto (-68), 3) := by decide +kernel
theorem dX0_find_141 : decode cX0_find 141 = .ok (.lload 5, 2) := by decide +kernel
theorem dX0_find_143 : decode cX0_find 143 = .ok (.lload 5, 2) := by decide +kernel
theorem dX0_find_145 : decode cX0_find 145 = .ok (.ldc2_w 33, 3) := by decide +kernel
theorem dX0_find_148 : decode cX0_find 148 = .ok (.lcmp, 1) := by decide +kernel
theorem dX0_find_149 : decode cX0_find 149 = .ok (.ifCond .ne 7, 3) := by decide +kernel
theorem dX0_find_152 : decode cX0_find 152 = .ok (.lconst 1, 1) := by decide +kernel
theorem dX0_find_153 : decode cX0_find 153 = .ok (.goto 6, 3) := by decide +kernel
theorem dX0_find_156 : decode cX0_find 156 = .ok (.ldc2_w 33, 3) := by decide +kernel
theorem dX0_find_159 : decode cX0_find 159 = .ok (.ladd, 1) := by decide +kernel
theorem dX0_find_160 : decode cX0_find 160 = .ok (.lstore 5, 2) := by decide +kernel
theorem dX0_find_162 : decode cX0_find 162 = .ok (.goto (-138), 3) := by decide +kernel
theorem dX0_find_165 : decode cX0_find 165 = .ok (.lload_n 3, 1) := by decide +kernel
theorem dX0_find_166 : decode cX0_find 166 = .ok (.lconst 1, 1) := by decide +kernel
theorem dX0_find_167 : decode cX0_find 167 = .ok (.lcmp, 1) := by decide +kernel
theorem dX0_find_168 : decode cX0_find 168 = .ok (.ifCond .le 11, 3) := by decide +kernel
theorem dX0_find_171 : decode cX0_find 171 = .ok (.aload_n 0, 1) := by decide +kernel
theorem dX0_find_172 : decode cX0_find 172 = .ok (.aload_n 0, 1) := by decide +kernel
theorem dX0_find_173 : decode cX0_find 173 = .ok (.getfield 23, 3) := by decide +kernel
theorem dX0_find_176 : decode cX0_find 176 = .ok (.invokevirtual 50, 3) := by decide +kernel
theorem dX0_find_179 : decode cX0_find 179 = .ok (.return_, 1) := by decide +kernel
theorem dX0_take_0 : decode cX0_take 0 = .ok (.aload_n 0, 1) := by decide +kernel
theorem dX0_take_1 : decode cX0_take 1 = .ok (.getfield 19, 3) := by decide +kernel
theorem dX0_take_4 : decode cX0_take 4 = .ok (.aload_n 0, 1) := by decide +kernel
theorem dX0_take_5 : decode cX0_take 5 = .ok (.getfield 9, 3) := by decide +kernel
theorem dX0_take_8 : decode cX0_take 8 = .ok (.arraylength, 1) := by decide +kernel
theorem dX0_take_9 : decode cX0_take 9 = .ok (.if_icmp .lt 4, 3) := by decide +kernel
theorem dX0_take_12 : decode cX0_take 12 = .ok (.return_, 1) := by decide +kernel
theorem dX0_take_13 : decode cX0_take 13 = .ok (.aload_n 0, 1) := by decide +kernel
theorem dX0_take_14 : decode cX0_take 14 = .ok (.getfield 15, 3) := by decide +kernel
theorem dX0_take_17 : decode cX0_take 17 = .ok (.lload_n 1, 1) := by decide +kernel
theorem dX0_take_18 : decode cX0_take 18 = .ok (.invokevirtual 54, 3) := by decide +kernel
theorem dX0_take_21 : decode cX0_take 21 = .ok (.lstore_n 3, 1) := by decide +kernel
theorem dX0_take_22 : decode cX0_take 22 = .ok (.aload_n 0, 1) := by decide +kernel
theorem dX0_take_23 : decode cX0_take 23 = .ok (.aload_n 0, 1) := by decide +kernel
theorem dX0_take_24 : decode cX0_take 24 = .ok (.getfield 15, 3) := by decide +kernel
theorem dX0_take_27 : decode cX0_take 27 = .ok (.aload_n 0, 1) := by decide +kernel
theorem dX0_take_28 : decode cX0_take 28 = .ok (.getfield 23, 3) := by decide +kernel
theorem dX0_take_31 : decode cX0_take 31 = .ok (.lload_n 3, 1) := by decide +kernel
theorem dX0_take_32 : decode cX0_take 32 = .ok (.invokevirtual 57, 3) := by decide +kernel
theorem dX0_take_35 : decode cX0_take 35 = .ok (.putfield 23, 3) := by decide +kernel
theorem dX0_take_38 : decode cX0_take 38 = .ok (.aload_n 0, 1) := by decide +kernel
theorem dX0_take_39 : decode cX0_take 39 = .ok (.getfield 19, 3) := by decide +kernel
theorem dX0_take_42 : decode cX0_take 42 = .ok (.istore 5, 2) := by decide +kernel
theorem dX0_take_44 : decode cX0_take 44 = .ok (.iload 5, 2) := by decide +kernel
theorem dX0_take_46 : decode cX0_take 46 = .ok (.ifCond .le 42, 3) := by decide +kernel
theorem dX0_take_49 : decode cX0_take 49 = .ok (.aload_n 0, 1) := by decide +kernel
theorem dX0_take_50 : decode cX0_take 50 = .ok (.lload_n 3, 1) := by decide +kernel
theorem dX0_take_51 : decode cX0_take 51 = .ok (.aload_n 0, 1) := by decide +kernel
theorem dX0_take_52 : decode cX0_take 52 = .ok (.getfield 9, 3) := by decide +kernel
theorem dX0_take_55 : decode cX0_take 55 = .ok (.iload 5, 2) := by decide +kernel
theorem dX0_take_57 : decode cX0_take 57 = .ok (.iconst 1, 1) := by decide +kernel
theorem dX0_take_58 : decode cX0_take 58 = .ok (.isub, 1) := by decide +kernel
theorem dX0_take_59 : decode cX0_take 59 = .ok (.laload, 1) := by decide +kernel
theorem dX0_take_60 : decode cX0_take 60 = .ok (.invokevirtual 61, 3) := by decide +kernel
theorem dX0_take_63 : decode cX0_take 63 = .ok (.ifCond .eq 25, 3) := by decide +kernel
theorem dX0_take_66 : decode cX0_take 66 = .ok (.aload_n 0, 1) := by decide +kernel
theorem dX0_take_67 : decode cX0_take 67 = .ok (.getfield 9, 3) := by decide +kernel
theorem dX0_take_70 : decode cX0_take 70 = .ok (.iload 5, 2) := by decide +kernel
theorem dX0_take_72 : decode cX0_take 72 = .ok (.aload_n 0, 1) := by decide +kernel
theorem dX0_take_73 : decode cX0_take 73 = .ok (.getfield 9, 3) := by decide +kernel
theorem dX0_take_76 : decode cX0_take 76 = .ok (.iload 5, 2) := by decide +kernel
theorem dX0_take_78 : decode cX0_take 78 = .ok (.iconst 1, 1) := by decide +kernel
theorem dX0_take_79 : decode cX0_take 79 = .ok (.isub, 1) := by decide +kernel
theorem dX0_take_80 : decode cX0_take 80 = .ok (.laload, 1) := by decide +kernel
theorem dX0_take_81 : decode cX0_take 81 = .ok (.lastore, 1) := by decide +kernel
theorem dX0_take_82 : decode cX0_take 82 = .ok (.iinc 5 (-1), 3) := by decide +kernel
theorem dX0_take_85 : decode cX0_take 85 = .ok (.goto (-41), 3) := by decide +kernel
theorem dX0_take_88 : decode cX0_take 88 = .ok (.aload_n 0, 1) := by decide +kernel
theorem dX0_take_89 : decode cX0_take 89 = .ok (.getfield 9, 3) := by decide +kernel
theorem dX0_take_92 : decode cX0_take 92 = .ok (.iload 5, 2) := by decide +kernel
theorem dX0_take_94 : decode cX0_take 94 = .ok (.lload_n 3, 1) := by decide +kernel
theorem dX0_take_95 : decode cX0_take 95 = .ok (.lastore, 1) := by decide +kernel
theorem dX0_take_96 : decode cX0_take 96 = .ok (.aload_n 0, 1) := by decide +kernel
theorem dX0_take_97 : decode cX0_take 97 = .ok (.dup, 1) := by decide +kernel
theorem dX0_take_98 : decode cX0_take 98 = .ok (.getfield 19, 3) := by decide +kernel
theorem dX0_take_101 : decode cX0_take 101 = .ok (.iconst 1, 1) := by decide +kernel
theorem dX0_take_102 : decode cX0_take 102 = .ok (.iadd, 1) := by decide +kernel
theorem dX0_take_103 : decode cX0_take 103 = .ok (.putfield 19, 3) := by decide +kernel
theorem dX0_take_106 : decode cX0_take 106 = .ok (.return_, 1) := by decide +kernel
theorem dX0_isAhead_0 : decode cX0_isAhead 0 = .ok (.aload_n 0, 1) := by decide +kernel
theorem dX0_isAhead_1 : decode cX0_isAhead 1 = .ok (.getfield 15, 3) := by decide +kernel
theorem dX0_isAhead_4 : decode cX0_isAhead 4 = .ok (.lload_n 1, 1) := by decide +kernel
theorem dX0_isAhead_5 : decode cX0_isAhead 5 = .ok (.invokevirtual 27, 3) := by decide +kernel
theorem dX0_isAhead_8 : decode cX0_isAhead 8 = .ok (.aload_n 0, 1) := by decide +kernel
theorem dX0_isAhead_9 : decode cX0_isAhead 9 = .ok (.getfield 15, 3) := by decide +kernel
theorem dX0_isAhead_12 : decode cX0_isAhead 12 = .ok (.lload_n 3, 1) := by decide +kernel
theorem dX0_isAhead_13 : decode cX0_isAhead 13 = .ok (.invokevirtual 27, 3) := by decide +kernel
theorem dX0_isAhead_16 : decode cX0_isAhead 16 = .ok (.lsub, 1) := by decide +kernel
theorem dX0_isAhead_17 : decode cX0_isAhead 17 = .ok (.lstore 5, 2) := by decide +kernel
theorem dX0_isAhead_19 : decode cX0_isAhead 19 = .ok (.lload 5, 2) := by decide +kernel
theorem dX0_isAhead_21 : decode cX0_isAhead 21 = .ok (.lconst 0, 1) := by decide +kernel
theorem dX0_isAhead_22 : decode cX0_isAhead 22 = .ok (.lcmp, 1) := by decide +kernel
theorem dX0_isAhead_23 : decode cX0_isAhead 23 = .ok (.ifCond .lt 18, 3) := by decide +kernel
theorem dX0_isAhead_26 : decode cX0_isAhead 26 = .ok (.lload 5, 2) := by decide +kernel
theorem dX0_isAhead_28 : decode cX0_isAhead 28 = .ok (.lconst 0, 1) := by decide +kernel
theorem dX0_isAhead_29 : decode cX0_isAhead 29 = .ok (.lcmp, 1) := by decide +kernel
theorem dX0_isAhead_30 : decode cX0_isAhead 30 = .ok (.ifCond .ne 15, 3) := by decide +kernel
theorem dX0_isAhead_33 : decode cX0_isAhead 33 = .ok (.lload_n 3, 1) := by decide +kernel
theorem dX0_isAhead_34 : decode cX0_isAhead 34 = .ok (.lload_n 1, 1) := by decide +kernel
theorem dX0_isAhead_35 : decode cX0_isAhead 35 = .ok (.invokestatic 64, 3) := by decide +kernel
theorem dX0_isAhead_38 : decode cX0_isAhead 38 = .ok (.ifCond .eq 7, 3) := by decide +kernel
theorem dX0_isAhead_41 : decode cX0_isAhead 41 = .ok (.iconst 1, 1) := by decide +kernel
theorem dX0_isAhead_42 : decode cX0_isAhead 42 = .ok (.goto 4, 3) := by decide +kernel
theorem dX0_isAhead_45 : decode cX0_isAhead 45 = .ok (.iconst 0, 1) := by decide +kernel
theorem dX0_isAhead_46 : decode cX0_isAhead 46 = .ok (.ireturn, 1) := by decide +kernel
theorem dX0_singles_0 : decode cX0_singles 0 = .ok (.lconst 1, 1) := by decide +kernel
theorem dX0_singles_1 : decode cX0_singles 1 = .ok (.lstore_n 1, 1) := by decide +kernel
theorem dX0_singles_2 : decode cX0_singles 2 = .ok (.iconst 0, 1) := by decide +kernel
theorem dX0_singles_3 : decode cX0_singles 3 = .ok (.istore_n 3, 1) := by decide +kernel
theorem dX0_singles_4 : decode cX0_singles 4 = .ok (.iload_n 3, 1) := by decide +kernel
theorem dX0_singles_5 : decode cX0_singles 5 = .ok (.aload_n 0, 1) := by decide +kernel
theorem dX0_singles_6 : decode cX0_singles 6 = .ok (.getfield 19, 3) := by decide +kernel
theorem dX0_singles_9 : decode cX0_singles 9 = .ok (.if_icmp .ge 66, 3) := by decide +kernel
theorem dX0_singles_12 : decode cX0_singles 12 = .ok (.iload_n 3, 1) := by decide +kernel
theorem dX0_singles_13 : decode cX0_singles 13 = .ok (.ifCond .le 25, 3) := by decide +kernel
theorem dX0_singles_16 : decode cX0_singles 16 = .ok (.aload_n 0, 1) := by decide +kernel
theorem dX0_singles_17 : decode cX0_singles 17 = .ok (.getfield 9, 3) := by decide +kernel
theorem dX0_singles_20 : decode cX0_singles 20 = .ok (.iload_n 3, 1) := by decide +kernel
theorem dX0_singles_21 : decode cX0_singles 21 = .ok (.laload, 1) := by decide +kernel
theorem dX0_singles_22 : decode cX0_singles 22 = .ok (.aload_n 0, 1) := by decide +kernel
theorem dX0_singles_23 : decode cX0_singles 23 = .ok (.getfield 9, 3) := by decide +kernel
theorem dX0_singles_26 : decode cX0_singles 26 = .ok (.iload_n 3, 1) := by decide +kernel
theorem dX0_singles_27 : decode cX0_singles 27 = .ok (.iconst 1, 1) := by decide +kernel
theorem dX0_singles_28 : decode cX0_singles 28 = .ok (.isub, 1) := by decide +kernel
theorem dX0_singles_29 : decode cX0_singles 29 = .ok (.laload, 1) := by decide +kernel
theorem dX0_singles_30 : decode cX0_singles 30 = .ok (.lcmp, 1) := by decide +kernel
theorem dX0_singles_31 : decode cX0_singles 31 = .ok (.ifCond .ne 7, 3) := by decide +kernel
theorem dX0_singles_34 : decode cX0_singles 34 = .ok (.iconst 1, 1) := by decide +kernel
theorem dX0_singles_35 : decode cX0_singles 35 = .ok (.goto 4, 3) := by decide +kernel
theorem dX0_singles_38 : decode cX0_singles 38 = .ok (.iconst 0, 1) := by decide +kernel
theorem dX0_singles_39 : decode cX0_singles 39 = .ok (.istore 4, 2) := by decide +kernel
theorem dX0_singles_41 : decode cX0_singles 41 = .ok (.lload_n 1, 1) := by decide +kernel
theorem dX0_singles_42 : decode cX0_singles 42 = .ok (.aload_n 0, 1) := by decide +kernel
theorem dX0_singles_43 : decode cX0_singles 43 = .ok (.getfield 15, 3) := by decide +kernel
theorem dX0_singles_46 : decode cX0_singles 46 = .ok (.aload_n 0, 1) := by decide +kernel
theorem dX0_singles_47 : decode cX0_singles 47 = .ok (.getfield 9, 3) := by decide +kernel
theorem dX0_singles_50 : decode cX0_singles 50 = .ok (.iload_n 3, 1) := by decide +kernel
theorem dX0_singles_51 : decode cX0_singles 51 = .ok (.laload, 1) := by decide +kernel
theorem dX0_singles_52 : decode cX0_singles 52 = .ok (.invokevirtual 27, 3) := by decide +kernel
theorem dX0_singles_55 : decode cX0_singles 55 = .ok (.iload 4, 2) := by decide +kernel
theorem dX0_singles_57 : decode cX0_singles 57 = .ok (.ifCond .eq 7, 3) := by decide +kernel
theorem dX0_singles_60 : decode cX0_singles 60 = .ok (.iconst 0, 1) := by decide +kernel
theorem dX0_singles_61 : decode cX0_singles 61 = .ok (.goto 4, 3) := by decide +kernel
theorem dX0_singles_64 : decode cX0_singles 64 = .ok (.iconst 1, 1) := by decide +kernel
theorem dX0_singles_65 : decode cX0_singles 65 = .ok (.i2l, 1) := by decide +kernel
theorem dX0_singles_66 : decode cX0_singles 66 = .ok (.lsub, 1) := by decide +kernel
theorem dX0_singles_67 : decode cX0_singles 67 = .ok (.lmul, 1) := by decide +kernel
theorem dX0_singles_68 : decode cX0_singles 68 = .ok (.lstore_n 1, 1) := by decide +kernel
theorem dX0_singles_69 : decode cX0_singles 69 = .ok (.iinc 3 1, 3) := by decide +kernel
theorem dX0_singles_72 : decode cX0_singles 72 = .ok (.goto (-68), 3) := by decide +kernel
theorem dX0_singles_75 : decode cX0_singles 75 = .ok (.lload_n 1, 1) := by decide +kernel
theorem dX0_singles_76 : decode cX0_singles 76 = .ok (.l2i, 1) := by decide +kernel
theorem dX0_singles_77 : decode cX0_singles 77 = .ok (.ireturn, 1) := by decide +kernel
theorem dX1_init_0 : decode cX1_init 0 = .ok (.aload_n 0, 1) := by decide +kernel
theorem dX1_init_1 : decode cX1_init 1 = .ok (.invokespecial 3, 3) := by decide +kernel
theorem dX1_init_4 : decode cX1_init 4 = .ok (.return_, 1) := by decide +kernel
theorem dX1_become_0 : decode cX1_become 0 = .ok (.aload_n 0, 1) := by decide +kernel
theorem dX1_become_1 : decode cX1_become 1 = .ok (.lload_n 1, 1) := by decide +kernel
theorem dX1_become_2 : decode cX1_become 2 = .ok (.putfield 9, 3) := by decide +kernel
theorem dX1_become_5 : decode cX1_become 5 = .ok (.aload_n 0, 1) := by decide +kernel
theorem dX1_become_6 : decode cX1_become 6 = .ok (.lload_n 3, 1) := by decide +kernel
theorem dX1_become_7 : decode cX1_become 7 = .ok (.putfield 15, 3) := by decide +kernel
theorem dX1_become_10 : decode cX1_become 10 = .ok (.aload_n 0, 1) := by decide +kernel
theorem dX1_become_11 : decode cX1_become 11 = .ok (.lload 5, 2) := by decide +kernel
theorem dX1_become_13 : decode cX1_become 13 = .ok (.putfield 18, 3) := by decide +kernel
theorem dX1_become_16 : decode cX1_become 16 = .ok (.return_, 1) := by decide +kernel
theorem dX1_told_0 : decode cX1_told 0 = .ok (.iload_n 1, 1) := by decide +kernel
theorem dX1_told_1 : decode cX1_told 1 = .ok (.ifCond .ne 10, 3) := by decide +kernel
theorem dX1_told_4 : decode cX1_told 4 = .ok (.aload_n 0, 1) := by decide +kernel
theorem dX1_told_5 : decode cX1_told 5 = .ok (.getfield 9, 3) := by decide +kernel
theorem dX1_told_8 : decode cX1_told 8 = .ok (.goto 19, 3) := by decide +kernel
theorem dX1_told_11 : decode cX1_told 11 = .ok (.iload_n 1, 1) := by decide +kernel
theorem dX1_told_12 : decode cX1_told 12 = .ok (.iconst 1, 1) := by decide +kernel
theorem dX1_told_13 : decode cX1_told 13 = .ok (.if_icmp .ne 10, 3) := by decide +kernel
theorem dX1_told_16 : decode cX1_told 16 = .ok (.aload_n 0, 1) := by decide +kernel
theorem dX1_told_17 : decode cX1_told 17 = .ok (.getfield 15, 3) := by decide +kernel
theorem dX1_told_20 : decode cX1_told 20 = .ok (.goto 7, 3) := by decide +kernel
theorem dX1_told_23 : decode cX1_told 23 = .ok (.aload_n 0, 1) := by decide +kernel
theorem dX1_told_24 : decode cX1_told 24 = .ok (.getfield 18, 3) := by decide +kernel
theorem dX1_told_27 : decode cX1_told 27 = .ok (.l2i, 1) := by decide +kernel
theorem dX1_told_28 : decode cX1_told 28 = .ok (.ireturn, 1) := by decide +kernel
theorem dX1_isAbove_0 : decode cX1_isAbove 0 = .ok (.aload_n 0, 1) := by decide +kernel
theorem dX1_isAbove_1 : decode cX1_isAbove 1 = .ok (.getfield 9, 3) := by decide +kernel
theorem dX1_isAbove_4 : decode cX1_isAbove 4 = .ok (.iload_n 1, 1) := by decide +kernel
theorem dX1_isAbove_5 : decode cX1_isAbove 5 = .ok (.i2l, 1) := by decide +kernel
theorem dX1_isAbove_6 : decode cX1_isAbove 6 = .ok (.lcmp, 1) := by decide +kernel
theorem dX1_isAbove_7 : decode cX1_isAbove 7 = .ok (.ifCond .gt 13, 3) := by decide +kernel
theorem dX1_isAbove_10 : decode cX1_isAbove 10 = .ok (.aload_n 0, 1) := by decide +kernel
theorem dX1_isAbove_11 : decode cX1_isAbove 11 = .ok (.getfield 15, 3) := by decide +kernel
theorem dX1_isAbove_14 : decode cX1_isAbove 14 = .ok (.iload_n 1, 1) := by decide +kernel
theorem dX1_isAbove_15 : decode cX1_isAbove 15 = .ok (.i2l, 1) := by decide +kernel
theorem dX1_isAbove_16 : decode cX1_isAbove 16 = .ok (.lcmp, 1) := by decide +kernel
theorem dX1_isAbove_17 : decode cX1_isAbove 17 = .ok (.ifCond .le 7, 3) := by decide +kernel
theorem dX1_isAbove_20 : decode cX1_isAbove 20 = .ok (.iconst 1, 1) := by decide +kernel
theorem dX1_isAbove_21 : decode cX1_isAbove 21 = .ok (.goto 4, 3) := by decide +kernel
theorem dX1_isAbove_24 : decode cX1_isAbove 24 = .ok (.iconst 0, 1) := by decide +kernel
theorem dX1_isAbove_25 : decode cX1_isAbove 25 = .ok (.ireturn, 1) := by decide +kernel
theorem dX1_holds_0 : decode cX1_holds 0 = .ok (.aload_n 0, 1) := by decide +kernel
theorem dX1_holds_1 : decode cX1_holds 1 = .ok (.getfield 15, 3) := by decide +kernel
theorem dX1_holds_4 : decode cX1_holds 4 = .ok (.lload_n 3, 1) := by decide +kernel
theorem dX1_holds_5 : decode cX1_holds 5 = .ok (.invokestatic 21, 3) := by decide +kernel
theorem dX1_holds_8 : decode cX1_holds 8 = .ok (.ifCond .eq 32, 3) := by decide +kernel
theorem dX1_holds_11 : decode cX1_holds 11 = .ok (.aload_n 0, 1) := by decide +kernel
theorem dX1_holds_12 : decode cX1_holds 12 = .ok (.getfield 9, 3) := by decide +kernel
theorem dX1_holds_15 : decode cX1_holds 15 = .ok (.lload_n 1, 1) := by decide +kernel
theorem dX1_holds_16 : decode cX1_holds 16 = .ok (.lload_n 3, 1) := by decide +kernel
theorem dX1_holds_17 : decode cX1_holds 17 = .ok (.aload_n 0, 1) := by decide +kernel
theorem dX1_holds_18 : decode cX1_holds 18 = .ok (.getfield 15, 3) := by decide +kernel
theorem dX1_holds_21 : decode cX1_holds 21 = .ok (.invokestatic 25, 3) := by decide +kernel
theorem dX1_holds_24 : decode cX1_holds 24 = .ok (.aload_n 0, 1) := by decide +kernel
theorem dX1_holds_25 : decode cX1_holds 25 = .ok (.getfield 18, 3) := by decide +kernel
theorem dX1_holds_28 : decode cX1_holds 28 = .ok (.lmul, 1) := by decide +kernel
theorem dX1_holds_29 : decode cX1_holds 29 = .ok (.lsub, 1) := by decide +kernel
theorem dX1_holds_30 : decode cX1_holds 30 = .ok (.invokestatic 21, 3) := by decide +kernel
theorem dX1_holds_33 : decode cX1_holds 33 = .ok (.ifCond .eq 7, 3) := by decide +kernel
theorem dX1_holds_36 : decode cX1_holds 36 = .ok (.iconst 1, 1) := by decide +kernel
theorem dX1_holds_37 : decode cX1_holds 37 = .ok (.goto 4, 3) := by decide +kernel
theorem dX1_holds_40 : decode cX1_holds 40 = .ok (.iconst 0, 1) := by decide +kernel
theorem dX1_holds_41 : decode cX1_holds 41 = .ok (.ireturn, 1) := by decide +kernel
theorem dX1_isClosed_0 : decode cX1_isClosed 0 = .ok (.aload_n 1, 1) := by decide +kernel
theorem dX1_isClosed_1 : decode cX1_isClosed 1 = .ok (.aload_n 0, 1) := by decide +kernel
theorem dX1_isClosed_2 : decode cX1_isClosed 2 = .ok (.getfield 18, 3) := by decide +kernel
theorem dX1_isClosed_5 : decode cX1_isClosed 5 = .ok (.aload_n 0, 1) := by decide +kernel
theorem dX1_isClosed_6 : decode cX1_isClosed 6 = .ok (.getfield 15, 3) := by decide +kernel
theorem dX1_isClosed_9 : decode cX1_isClosed 9 = .ok (.invokestatic 29, 3) := by decide +kernel
theorem dX1_isClosed_12 : decode cX1_isClosed 12 = .ok (.lconst 1, 1) := by decide +kernel
theorem dX1_isClosed_13 : decode cX1_isClosed 13 = .ok (.invokevirtual 34, 3) := by decide +kernel
theorem dX1_isClosed_16 : decode cX1_isClosed 16 = .ok (.lstore_n 2, 1) := by decide +kernel
theorem dX1_isClosed_17 : decode cX1_isClosed 17 = .ok (.aload_n 0, 1) := by decide +kernel
theorem dX1_isClosed_18 : decode cX1_isClosed 18 = .ok (.lconst 0, 1) := by decide +kernel
theorem dX1_isClosed_19 : decode cX1_isClosed 19 = .ok (.aload_n 0, 1) := by decide +kernel
theorem dX1_isClosed_20 : decode cX1_isClosed 20 = .ok (.getfield 9, 3) := by decide +kernel
theorem dX1_isClosed_23 : decode cX1_isClosed 23 = .ok (.invokevirtual 37, 3) := by decide +kernel
theorem dX1_isClosed_26 : decode cX1_isClosed 26 = .ok (.ifCond .eq 22, 3) := by decide +kernel
theorem dX1_isClosed_29 : decode cX1_isClosed 29 = .ok (.aload_n 0, 1) := by decide +kernel
theorem dX1_isClosed_30 : decode cX1_isClosed 30 = .ok (.lload_n 2, 1) := by decide +kernel
theorem dX1_isClosed_31 : decode cX1_isClosed 31 = .ok (.invokestatic 40, 3) := by decide +kernel
theorem dX1_isClosed_34 : decode cX1_isClosed 34 = .ok (.lload_n 2, 1) := by decide +kernel
theorem dX1_isClosed_35 : decode cX1_isClosed 35 = .ok (.invokestatic 44, 3) := by decide +kernel
theorem dX1_isClosed_38 : decode cX1_isClosed 38 = .ok (.invokevirtual 37, 3) := by decide +kernel
theorem dX1_isClosed_41 : decode cX1_isClosed 41 = .ok (.ifCond .eq 7, 3) := by decide +kernel
theorem dX1_isClosed_44 : decode cX1_isClosed 44 = .ok (.iconst 1, 1) := by decide +kernel
theorem dX1_isClosed_45 : decode cX1_isClosed 45 = .ok (.goto 4, 3) := by decide +kernel
theorem dX1_isClosed_48 : decode cX1_isClosed 48 = .ok (.iconst 0, 1) := by decide +kernel
theorem dX1_isClosed_49 : decode cX1_isClosed 49 = .ok (.ireturn, 1) := by decide +kernel
theorem dX1_addNumber_0 : decode cX1_addNumber 0 = .ok (.aload_n 0, 1) := by decide +kernel
theorem dX1_addNumber_1 : decode cX1_addNumber 1 = .ok (.lload_n 1, 1) := by decide +kernel
theorem dX1_addNumber_2 : decode cX1_addNumber 2 = .ok (.invokestatic 40, 3) := by decide +kernel
theorem dX1_addNumber_5 : decode cX1_addNumber 5 = .ok (.lload_n 1, 1) := by decide +kernel
theorem dX1_addNumber_6 : decode cX1_addNumber 6 = .ok (.invokestatic 44, 3) := by decide +kernel
theorem dX1_addNumber_9 : decode cX1_addNumber 9 = .ok (.invokevirtual 47, 3) := by decide +kernel
theorem dX1_addNumber_12 : decode cX1_addNumber 12 = .ok (.return_, 1) := by decide +kernel
theorem dX1_add_0 : decode cX1_add 0 = .ok (.lload_n 1, 1) := by decide +kernel
theorem dX1_add_1 : decode cX1_add 1 = .ok (.lstore 5, 2) := by decide +kernel
theorem dX1_add_3 : decode cX1_add 3 = .ok (.lload_n 3, 1) := by decide +kernel
theorem dX1_add_4 : decode cX1_add 4 = .ok (.lstore 7, 2) := by decide +kernel
theorem dX1_add_6 : decode cX1_add 6 = .ok (.iconst 0, 1) := by decide +kernel
theorem dX1_add_7 : decode cX1_add 7 = .ok (.istore 9, 2) := by decide +kernel
theorem dX1_add_9 : decode cX1_add 9 = .ok (.iload 9, 2) := by decide +kernel
theorem dX1_add_11 : decode cX1_add 11 = .ok (.ldc 51, 2) := by decide +kernel
theorem dX1_add_13 : decode cX1_add 13 = .ok (.if_icmp .ge 69, 3) := by decide +kernel
theorem dX1_add_16 : decode cX1_add 16 = .ok (.lload 7, 2) := by decide +kernel
theorem dX1_add_18 : decode cX1_add 18 = .ok (.lconst 0, 1) := by decide +kernel
theorem dX1_add_19 : decode cX1_add 19 = .ok (.lcmp, 1) := by decide +kernel
theorem dX1_add_20 : decode cX1_add 20 = .ok (.ifCond .eq 62, 3) := by decide +kernel
theorem dX1_add_23 : decode cX1_add 23 = .ok (.aload_n 0, 1) := by decide +kernel
theorem dX1_add_24 : decode cX1_add 24 = .ok (.getfield 15, 3) := by decide +kernel
theorem dX1_add_27 : decode cX1_add 27 = .ok (.lload 7, 2) := by decide +kernel
theorem dX1_add_29 : decode cX1_add 29 = .ok (.ldiv, 1) := by decide +kernel
theorem dX1_add_30 : decode cX1_add 30 = .ok (.lstore 10, 2) := by decide +kernel
theorem dX1_add_32 : decode cX1_add 32 = .ok (.aload_n 0, 1) := by decide +kernel
theorem dX1_add_33 : decode cX1_add 33 = .ok (.getfield 18, 3) := by decide +kernel
theorem dX1_add_36 : decode cX1_add 36 = .ok (.lload 10, 2) := by decide +kernel
theorem dX1_add_38 : decode cX1_add 38 = .ok (.lload 5, 2) := by decide +kernel
theorem dX1_add_40 : decode cX1_add 40 = .ok (.lmul, 1) := by decide +kernel
theorem dX1_add_41 : decode cX1_add 41 = .ok (.lsub, 1) := by decide +kernel
theorem dX1_add_42 : decode cX1_add 42 = .ok (.lstore 12, 2) := by decide +kernel
theorem dX1_add_44 : decode cX1_add 44 = .ok (.aload_n 0, 1) := by decide +kernel
theorem dX1_add_45 : decode cX1_add 45 = .ok (.getfield 15, 3) := by decide +kernel
theorem dX1_add_48 : decode cX1_add 48 = .ok (.lload 10, 2) := by decide +kernel
theorem dX1_add_50 : decode cX1_add 50 = .ok (.lload 7, 2) := by decide +kernel
theorem dX1_add_52 : decode cX1_add 52 = .ok (.lmul, 1) := by decide +kernel
theorem dX1_add_53 : decode cX1_add 53 = .ok (.lsub, 1) := by decide +kernel
theorem dX1_add_54 : decode cX1_add 54 = .ok (.lstore 14, 2) := by decide +kernel
theorem dX1_add_56 : decode cX1_add 56 = .ok (.aload_n 0, 1) := by decide +kernel
theorem dX1_add_57 : decode cX1_add 57 = .ok (.lload 5, 2) := by decide +kernel
theorem dX1_add_59 : decode cX1_add 59 = .ok (.putfield 18, 3) := by decide +kernel
theorem dX1_add_62 : decode cX1_add 62 = .ok (.aload_n 0, 1) := by decide +kernel
theorem dX1_add_63 : decode cX1_add 63 = .ok (.lload 7, 2) := by decide +kernel
theorem dX1_add_65 : decode cX1_add 65 = .ok (.putfield 15, 3) := by decide +kernel
theorem dX1_add_68 : decode cX1_add 68 = .ok (.lload 12, 2) := by decide +kernel
theorem dX1_add_70 : decode cX1_add 70 = .ok (.lstore 5, 2) := by decide +kernel
theorem dX1_add_72 : decode cX1_add 72 = .ok (.lload 14, 2) := by decide +kernel
theorem dX1_add_74 : decode cX1_add 74 = .ok (.lstore 7, 2) := by decide +kernel
theorem dX1_add_76 : decode cX1_add 76 = .ok (.iinc 9 1, 3) := by decide +kernel
theorem dX1_add_79 : decode cX1_add 79 = .ok (.goto (-70), 3) := by decide +kernel
theorem dX1_add_82 : decode cX1_add 82 = .ok (.aload_n 0, 1) := by decide +kernel
theorem dX1_add_83 : decode cX1_add 83 = .ok (.aload_n 0, 1) := by decide +kernel
theorem dX1_add_84 : decode cX1_add 84 = .ok (.getfield 9, 3) := by decide +kernel
theorem dX1_add_87 : decode cX1_add 87 = .ok (.lload 5, 2) := by decide +kernel
theorem dX1_add_89 : decode cX1_add 89 = .ok (.invokestatic 52, 3) := by decide +kernel
theorem dX1_add_92 : decode cX1_add 92 = .ok (.putfield 9, 3) := by decide +kernel
theorem dX1_add_95 : decode cX1_add 95 = .ok (.aload_n 0, 1) := by decide +kernel
theorem dX1_add_96 : decode cX1_add 96 = .ok (.getfield 15, 3) := by decide +kernel
theorem dX1_add_99 : decode cX1_add 99 = .ok (.lconst 0, 1) := by decide +kernel
theorem dX1_add_100 : decode cX1_add 100 = .ok (.lcmp, 1) := by decide +kernel
theorem dX1_add_101 : decode cX1_add 101 = .ok (.ifCond .ge 21, 3) := by decide +kernel
theorem dX1_add_104 : decode cX1_add 104 = .ok (.aload_n 0, 1) := by decide +kernel
theorem dX1_add_105 : decode cX1_add 105 = .ok (.aload_n 0, 1) := by decide +kernel
theorem dX1_add_106 : decode cX1_add 106 = .ok (.getfield 15, 3) := by decide +kernel
theorem dX1_add_109 : decode cX1_add 109 = .ok (.lneg, 1) := by decide +kernel
theorem dX1_add_110 : decode cX1_add 110 = .ok (.putfield 15, 3) := by decide +kernel
theorem dX1_add_113 : decode cX1_add 113 = .ok (.aload_n 0, 1) := by decide +kernel
theorem dX1_add_114 : decode cX1_add 114 = .ok (.aload_n 0, 1) := by decide +kernel
theorem dX1_add_115 : decode cX1_add 115 = .ok (.getfield 18, 3) := by decide +kernel
theorem dX1_add_118 : decode cX1_add 118 = .ok (.lneg, 1) := by decide +kernel
theorem dX1_add_119 : decode cX1_add 119 = .ok (.putfield 18, 3) := by decide +kernel
theorem dX1_add_122 : decode cX1_add 122 = .ok (.aload_n 0, 1) := by decide +kernel
theorem dX1_add_123 : decode cX1_add 123 = .ok (.getfield 9, 3) := by decide +kernel
theorem dX1_add_126 : decode cX1_add 126 = .ok (.lconst 0, 1) := by decide +kernel
theorem dX1_add_127 : decode cX1_add 127 = .ok (.lcmp, 1) := by decide +kernel
theorem dX1_add_128 : decode cX1_add 128 = .ok (.ifCond .le 18, 3) := by decide +kernel
theorem dX1_add_131 : decode cX1_add 131 = .ok (.aload_n 0, 1) := by decide +kernel
theorem dX1_add_132 : decode cX1_add 132 = .ok (.aload_n 0, 1) := by decide +kernel
theorem dX1_add_133 : decode cX1_add 133 = .ok (.getfield 18, 3) := by decide +kernel
theorem dX1_add_136 : decode cX1_add 136 = .ok (.aload_n 0, 1) := by decide +kernel
theorem dX1_add_137 : decode cX1_add 137 = .ok (.getfield 9, 3) := by decide +kernel
theorem dX1_add_140 : decode cX1_add 140 = .ok (.invokestatic 55, 3) := by decide +kernel
theorem dX1_add_143 : decode cX1_add 143 = .ok (.putfield 18, 3) := by decide +kernel
theorem dX1_add_146 : decode cX1_add 146 = .ok (.return_, 1) := by decide +kernel
theorem dX1_meet_0 : decode cX1_meet 0 = .ok (.aload_n 0, 1) := by decide +kernel
theorem dX1_meet_1 : decode cX1_meet 1 = .ok (.getfield 9, 3) := by decide +kernel
theorem dX1_meet_4 : decode cX1_meet 4 = .ok (.aload_n 1, 1) := by decide +kernel
theorem dX1_meet_5 : decode cX1_meet 5 = .ok (.getfield 9, 3) := by decide +kernel
theorem dX1_meet_8 : decode cX1_meet 8 = .ok (.invokestatic 52, 3) := by decide +kernel
theorem dX1_meet_11 : decode cX1_meet 11 = .ok (.lstore_n 2, 1) := by decide +kernel
theorem dX1_meet_12 : decode cX1_meet 12 = .ok (.aload_n 0, 1) := by decide +kernel
theorem dX1_meet_13 : decode cX1_meet 13 = .ok (.getfield 15, 3) := by decide +kernel
theorem dX1_meet_16 : decode cX1_meet 16 = .ok (.aload_n 0, 1) := by decide +kernel
theorem dX1_meet_17 : decode cX1_meet 17 = .ok (.getfield 15, 3) := by decide +kernel
theorem dX1_meet_20 : decode cX1_meet 20 = .ok (.aload_n 1, 1) := by decide +kernel
theorem dX1_meet_21 : decode cX1_meet 21 = .ok (.getfield 15, 3) := by decide +kernel
theorem dX1_meet_24 : decode cX1_meet 24 = .ok (.invokestatic 52, 3) := by decide +kernel
theorem dX1_meet_27 : decode cX1_meet 27 = .ok (.invokestatic 25, 3) := by decide +kernel
theorem dX1_meet_30 : decode cX1_meet 30 = .ok (.aload_n 1, 1) := by decide +kernel
theorem dX1_meet_31 : decode cX1_meet 31 = .ok (.getfield 15, 3) := by decide +kernel
theorem dX1_meet_34 : decode cX1_meet 34 = .ok (.lmul, 1) := by decide +kernel
theorem dX1_meet_35 : decode cX1_meet 35 = .ok (.lstore 4, 2) := by decide +kernel
theorem dX1_meet_37 : decode cX1_meet 37 = .ok (.aload_n 0, 1) := by decide +kernel
theorem dX1_meet_38 : decode cX1_meet 38 = .ok (.getfield 18, 3) := by decide +kernel
theorem dX1_meet_41 : decode cX1_meet 41 = .ok (.lload 4, 2) := by decide +kernel
theorem dX1_meet_43 : decode cX1_meet 43 = .ok (.aload_n 0, 1) := by decide +kernel
theorem dX1_meet_44 : decode cX1_meet 44 = .ok (.getfield 15, 3) := by decide +kernel
theorem dX1_meet_47 : decode cX1_meet 47 = .ok (.invokestatic 25, 3) := by decide +kernel
theorem dX1_meet_50 : decode cX1_meet 50 = .ok (.lmul, 1) := by decide +kernel
theorem dX1_meet_51 : decode cX1_meet 51 = .ok (.aload_n 1, 1) := by decide +kernel
theorem dX1_meet_52 : decode cX1_meet 52 = .ok (.getfield 18, 3) := by decide +kernel
theorem dX1_meet_55 : decode cX1_meet 55 = .ok (.lload 4, 2) := by decide +kernel
theorem dX1_meet_57 : decode cX1_meet 57 = .ok (.aload_n 1, 1) := by decide +kernel
theorem dX1_meet_58 : decode cX1_meet 58 = .ok (.getfield 15, 3) := by decide +kernel
theorem dX1_meet_61 : decode cX1_meet 61 = .ok (.invokestatic 25, 3) := by decide +kernel
theorem dX1_meet_64 : decode cX1_meet 64 = .ok (.lmul, 1) := by decide +kernel
theorem dX1_meet_65 : decode cX1_meet 65 = .ok (.lsub, 1) := by decide +kernel
theorem dX1_meet_66 : decode cX1_meet 66 = .ok (.lstore 6, 2) := by decide +kernel
theorem dX1_meet_68 : decode cX1_meet 68 = .ok (.aload_n 0, 1) := by decide +kernel
theorem dX1_meet_69 : decode cX1_meet 69 = .ok (.getfield 9, 3) := by decide +kernel
theorem dX1_meet_72 : decode cX1_meet 72 = .ok (.lload_n 2, 1) := by decide +kernel
theorem dX1_meet_73 : decode cX1_meet 73 = .ok (.invokestatic 25, 3) := by decide +kernel
theorem dX1_meet_76 : decode cX1_meet 76 = .ok (.aload_n 1, 1) := by decide +kernel
theorem dX1_meet_77 : decode cX1_meet 77 = .ok (.getfield 9, 3) := by decide +kernel
theorem dX1_meet_80 : decode cX1_meet 80 = .ok (.lmul, 1) := by decide +kernel
theorem dX1_meet_81 : decode cX1_meet 81 = .ok (.lstore 8, 2) := by decide +kernel
theorem dX1_meet_83 : decode cX1_meet 83 = .ok (.lload 4, 2) := by decide +kernel
theorem dX1_meet_85 : decode cX1_meet 85 = .ok (.lload_n 2, 1) := by decide +kernel
theorem dX1_meet_86 : decode cX1_meet 86 = .ok (.lload_n 2, 1) := by decide +kernel
theorem dX1_meet_87 : decode cX1_meet 87 = .ok (.lload 6, 2) := by decide +kernel
theorem dX1_meet_89 : decode cX1_meet 89 = .ok (.invokestatic 52, 3) := by decide +kernel
theorem dX1_meet_92 : decode cX1_meet 92 = .ok (.invokestatic 25, 3) := by decide +kernel
theorem dX1_meet_95 : decode cX1_meet 95 = .ok (.lmul, 1) := by decide +kernel
theorem dX1_meet_96 : decode cX1_meet 96 = .ok (.lstore 10, 2) := by decide +kernel
theorem dX1_meet_98 : decode cX1_meet 98 = .ok (.lconst 0, 1) := by decide +kernel
theorem dX1_meet_99 : decode cX1_meet 99 = .ok (.lstore 12, 2) := by decide +kernel
theorem dX1_meet_101 : decode cX1_meet 101 = .ok (.lload 8, 2) := by decide +kernel
theorem dX1_meet_103 : decode cX1_meet 103 = .ok (.ldc2_w 60, 3) := by decide +kernel
theorem dX1_meet_106 : decode cX1_meet 106 = .ok (.lcmp, 1) := by decide +kernel
theorem dX1_meet_107 : decode cX1_meet 107 = .ok (.ifCond .gt 51, 3) := by decide +kernel
theorem dX1_meet_110 : decode cX1_meet 110 = .ok (.lload 10, 2) := by decide +kernel
theorem dX1_meet_112 : decode cX1_meet 112 = .ok (.ldc2_w 60, 3) := by decide +kernel
theorem dX1_meet_115 : decode cX1_meet 115 = .ok (.lcmp, 1) := by decide +kernel
theorem dX1_meet_116 : decode cX1_meet 116 = .ok (.ifCond .gt 42, 3) := by decide +kernel
theorem dX1_meet_119 : decode cX1_meet 119 = .ok (.lload 12, 2) := by decide +kernel
theorem dX1_meet_121 : decode cX1_meet 121 = .ok (.lload 8, 2) := by decide +kernel
theorem dX1_meet_123 : decode cX1_meet 123 = .ok (.lcmp, 1) := by decide +kernel
theorem dX1_meet_124 : decode cX1_meet 124 = .ok (.ifCond .ge 34, 3) := by decide +kernel
theorem dX1_meet_127 : decode cX1_meet 127 = .ok (.aload_n 0, 1) := by decide +kernel
theorem dX1_meet_128 : decode cX1_meet 128 = .ok (.lload 12, 2) := by decide +kernel
theorem dX1_meet_130 : decode cX1_meet 130 = .ok (.lload 10, 2) := by decide +kernel
theorem dX1_meet_132 : decode cX1_meet 132 = .ok (.invokevirtual 37, 3) := by decide +kernel
theorem dX1_meet_135 : decode cX1_meet 135 = .ok (.ifCond .eq 14, 3) := by decide +kernel
theorem dX1_meet_138 : decode cX1_meet 138 = .ok (.aload_n 1, 1) := by decide +kernel
theorem dX1_meet_139 : decode cX1_meet 139 = .ok (.lload 12, 2) := by decide +kernel
theorem dX1_meet_141 : decode cX1_meet 141 = .ok (.lload 10, 2) := by decide +kernel
theorem dX1_meet_143 : decode cX1_meet 143 = .ok (.invokevirtual 37, 3) := by decide +kernel
theorem dX1_meet_146 : decode cX1_meet 146 = .ok (.ifCond .ne 12, 3) := by decide +kernel
theorem dX1_meet_149 : decode cX1_meet 149 = .ok (.lload 12, 2) := by decide +kernel
theorem dX1_meet_151 : decode cX1_meet 151 = .ok (.lconst 1, 1) := by decide +kernel
theorem dX1_meet_152 : decode cX1_meet 152 = .ok (.ladd, 1) := by decide +kernel
theorem dX1_meet_153 : decode cX1_meet 153 = .ok (.lstore 12, 2) := by decide +kernel
theorem dX1_meet_155 : decode cX1_meet 155 = .ok (.goto (-36), 3) := by decide +kernel
theorem dX1_meet_158 : decode cX1_meet 158 = .ok (.aload_n 0, 1) := by decide +kernel
theorem dX1_meet_159 : decode cX1_meet 159 = .ok (.lload 8, 2) := by decide +kernel
theorem dX1_meet_161 : decode cX1_meet 161 = .ok (.lload 10, 2) := by decide +kernel
theorem dX1_meet_163 : decode cX1_meet 163 = .ok (.lload 12, 2) := by decide +kernel
theorem dX1_meet_165 : decode cX1_meet 165 = .ok (.invokevirtual 62, 3) := by decide +kernel
theorem dX1_meet_168 : decode cX1_meet 168 = .ok (.return_, 1) := by decide +kernel
theorem dX1_shortest_0 : decode cX1_shortest 0 = .ok (.aload_n 0, 1) := by decide +kernel
theorem dX1_shortest_1 : decode cX1_shortest 1 = .ok (.getfield 9, 3) := by decide +kernel
theorem dX1_shortest_4 : decode cX1_shortest 4 = .ok (.lconst 0, 1) := by decide +kernel
theorem dX1_shortest_5 : decode cX1_shortest 5 = .ok (.invokestatic 29, 3) := by decide +kernel
theorem dX1_shortest_8 : decode cX1_shortest 8 = .ok (.lstore_n 3, 1) := by decide +kernel
theorem dX1_shortest_9 : decode cX1_shortest 9 = .ok (.aload_n 0, 1) := by decide +kernel
theorem dX1_shortest_10 : decode cX1_shortest 10 = .ok (.getfield 18, 3) := by decide +kernel
theorem dX1_shortest_13 : decode cX1_shortest 13 = .ok (.aload_n 0, 1) := by decide +kernel
theorem dX1_shortest_14 : decode cX1_shortest 14 = .ok (.getfield 15, 3) := by decide +kernel
theorem dX1_shortest_17 : decode cX1_shortest 17 = .ok (.invokestatic 29, 3) := by decide +kernel
theorem dX1_shortest_20 : decode cX1_shortest 20 = .ok (.lstore 5, 2) := by decide +kernel
theorem dX1_shortest_22 : decode cX1_shortest 22 = .ok (.iconst 0, 1) := by decide +kernel
theorem dX1_shortest_23 : decode cX1_shortest 23 = .ok (.istore 7, 2) := by decide +kernel
theorem dX1_shortest_25 : decode cX1_shortest 25 = .ok (.iload 7, 2) := by decide +kernel
theorem dX1_shortest_27 : decode cX1_shortest 27 = .ok (.ldc 51, 2) := by decide +kernel
theorem dX1_shortest_29 : decode cX1_shortest 29 = .ok (.if_icmp .ge 71, 3) := by decide +kernel
theorem dX1_shortest_32 : decode cX1_shortest 32 = .ok (.aload_n 1, 1) := by decide +kernel
theorem dX1_shortest_33 : decode cX1_shortest 33 = .ok (.lload 5, 2) := by decide +kernel
theorem dX1_shortest_35 : decode cX1_shortest 35 = .ok (.invokevirtual 66, 3) := by decide +kernel
theorem dX1_shortest_38 : decode cX1_shortest 38 = .ok (.aload_n 1, 1) := by decide +kernel
theorem dX1_shortest_39 : decode cX1_shortest 39 = .ok (.lload_n 3, 1) := by decide +kernel
theorem dX1_shortest_40 : decode cX1_shortest 40 = .ok (.invokevirtual 66, 3) := by decide +kernel
theorem dX1_shortest_43 : decode cX1_shortest 43 = .ok (.lcmp, 1) := by decide +kernel
theorem dX1_shortest_44 : decode cX1_shortest 44 = .ok (.ifCond .ge 13, 3) := by decide +kernel
theorem dX1_shortest_47 : decode cX1_shortest 47 = .ok (.lload_n 3, 1) := by decide +kernel
theorem dX1_shortest_48 : decode cX1_shortest 48 = .ok (.lstore 8, 2) := by decide +kernel
theorem dX1_shortest_50 : decode cX1_shortest 50 = .ok (.lload 5, 2) := by decide +kernel
theorem dX1_shortest_52 : decode cX1_shortest 52 = .ok (.lstore_n 3, 1) := by decide +kernel
theorem dX1_shortest_53 : decode cX1_shortest 53 = .ok (.lload 8, 2) := by decide +kernel
theorem dX1_shortest_55 : decode cX1_shortest 55 = .ok (.lstore 5, 2) := by decide +kernel
theorem dX1_shortest_57 : decode cX1_shortest 57 = .ok (.aload_n 1, 1) := by decide +kernel
theorem dX1_shortest_58 : decode cX1_shortest 58 = .ok (.lload_n 3, 1) := by decide +kernel
theorem dX1_shortest_59 : decode cX1_shortest 59 = .ok (.lload 5, 2) := by decide +kernel
theorem dX1_shortest_61 : decode cX1_shortest 61 = .ok (.invokestatic 69, 3) := by decide +kernel
theorem dX1_shortest_64 : decode cX1_shortest 64 = .ok (.lstore 8, 2) := by decide +kernel
theorem dX1_shortest_66 : decode cX1_shortest 66 = .ok (.lload 8, 2) := by decide +kernel
theorem dX1_shortest_68 : decode cX1_shortest 68 = .ok (.lconst 0, 1) := by decide +kernel
theorem dX1_shortest_69 : decode cX1_shortest 69 = .ok (.lcmp, 1) := by decide +kernel
theorem dX1_shortest_70 : decode cX1_shortest 70 = .ok (.ifCond .ne 6, 3) := by decide +kernel
theorem dX1_shortest_73 : decode cX1_shortest 73 = .ok (.goto 27, 3) := by decide +kernel
theorem dX1_shortest_76 : decode cX1_shortest 76 = .ok (.lload 5, 2) := by decide +kernel
theorem dX1_shortest_78 : decode cX1_shortest 78 = .ok (.aload_n 1, 1) := by decide +kernel
theorem dX1_shortest_79 : decode cX1_shortest 79 = .ok (.lload 8, 2) := by decide +kernel
theorem dX1_shortest_81 : decode cX1_shortest 81 = .ok (.lconst 0, 1) := by decide +kernel
theorem dX1_shortest_82 : decode cX1_shortest 82 = .ok (.invokestatic 29, 3) := by decide +kernel
theorem dX1_shortest_85 : decode cX1_shortest 85 = .ok (.lload_n 3, 1) := by decide +kernel
theorem dX1_shortest_86 : decode cX1_shortest 86 = .ok (.invokevirtual 34, 3) := by decide +kernel
theorem dX1_shortest_89 : decode cX1_shortest 89 = .ok (.invokestatic 73, 3) := by decide +kernel
theorem dX1_shortest_92 : decode cX1_shortest 92 = .ok (.lstore 5, 2) := by decide +kernel
theorem dX1_shortest_94 : decode cX1_shortest 94 = .ok (.iinc 7 1, 3) := by decide +kernel
theorem dX1_shortest_97 : decode cX1_shortest 97 = .ok (.goto (-72), 3) := by decide +kernel
theorem dX1_shortest_100 : decode cX1_shortest 100 = .ok (.iload_n 2, 1) := by decide +kernel
theorem dX1_shortest_101 : decode cX1_shortest 101 = .ok (.ifCond .eq 13, 3) := by decide +kernel
theorem dX1_shortest_104 : decode cX1_shortest 104 = .ok (.aload_n 1, 1) := by decide +kernel
theorem dX1_shortest_105 : decode cX1_shortest 105 = .ok (.lload_n 3, 1) := by decide +kernel
theorem dX1_shortest_106 : decode cX1_shortest 106 = .ok (.lload 5, 2) := by decide +kernel
theorem dX1_shortest_108 : decode cX1_shortest 108 = .ok (.invokestatic 76, 3) := by decide +kernel
theorem dX1_shortest_111 : decode cX1_shortest 111 = .ok (.goto 9, 3) := by decide +kernel
theorem dX1_shortest_114 : decode cX1_shortest 114 = .ok (.aload_n 1, 1) := by decide +kernel
theorem dX1_shortest_115 : decode cX1_shortest 115 = .ok (.lload_n 3, 1) := by decide +kernel
theorem dX1_shortest_116 : decode cX1_shortest 116 = .ok (.invokevirtual 66, 3) := by decide +kernel
theorem dX1_shortest_119 : decode cX1_shortest 119 = .ok (.l2i, 1) := by decide +kernel
theorem dX1_shortest_120 : decode cX1_shortest 120 = .ok (.ireturn, 1) := by decide +kernel
theorem dX1_nearestMultiple_0 : decode cX1_nearestMultiple 0 = .ok (.aload_n 0, 1) := by decide +kernel
theorem dX1_nearestMultiple_1 : decode cX1_nearestMultiple 1 = .ok (.lload_n 1, 1) := by decide +kernel
theorem dX1_nearestMultiple_2 : decode cX1_nearestMultiple 2 = .ok (.invokevirtual 66, 3) := by decide +kernel
theorem dX1_nearestMultiple_5 : decode cX1_nearestMultiple 5 = .ok (.lstore 5, 2) := by decide +kernel
theorem dX1_nearestMultiple_7 : decode cX1_nearestMultiple 7 = .ok (.aload_n 0, 1) := by decide +kernel
theorem dX1_nearestMultiple_8 : decode cX1_nearestMultiple 8 = .ok (.lload_n 1, 1) := by decide +kernel
theorem dX1_nearestMultiple_9 : decode cX1_nearestMultiple 9 = .ok (.lload_n 3, 1) := by decide +kernel
theorem dX1_nearestMultiple_10 : decode cX1_nearestMultiple 10 = .ok (.invokestatic 80, 3) := by decide +kernel
theorem dX1_nearestMultiple_13 : decode cX1_nearestMultiple 13 = .ok (.invokevirtual 66, 3) := by decide +kernel
theorem dX1_nearestMultiple_16 : decode cX1_nearestMultiple 16 = .ok (.lload 5, 2) := by decide +kernel
theorem dX1_nearestMultiple_18 : decode cX1_nearestMultiple 18 = .ok (.lsub, 1) := by decide +kernel
theorem dX1_nearestMultiple_19 : decode cX1_nearestMultiple 19 = .ok (.aload_n 0, 1) := by decide +kernel
theorem dX1_nearestMultiple_20 : decode cX1_nearestMultiple 20 = .ok (.lload_n 3, 1) := by decide +kernel
theorem dX1_nearestMultiple_21 : decode cX1_nearestMultiple 21 = .ok (.invokevirtual 66, 3) := by decide +kernel
theorem dX1_nearestMultiple_24 : decode cX1_nearestMultiple 24 = .ok (.lsub, 1) := by decide +kernel
theorem dX1_nearestMultiple_25 : decode cX1_nearestMultiple 25 = .ok (.lstore 7, 2) := by decide +kernel
theorem dX1_nearestMultiple_27 : decode cX1_nearestMultiple 27 = .ok (.lload 5, 2) := by decide +kernel
theorem dX1_nearestMultiple_29 : decode cX1_nearestMultiple 29 = .ok (.lconst 0, 1) := by decide +kernel
theorem dX1_nearestMultiple_30 : decode cX1_nearestMultiple 30 = .ok (.lcmp, 1) := by decide +kernel
theorem dX1_nearestMultiple_31 : decode cX1_nearestMultiple 31 = .ok (.ifCond .ne 7, 3) := by decide +kernel
theorem dX1_nearestMultiple_34 : decode cX1_nearestMultiple 34 = .ok (.lconst 0, 1) := by decide +kernel
theorem dX1_nearestMultiple_35 : decode cX1_nearestMultiple 35 = .ok (.goto 17, 3) := by decide +kernel
theorem dX1_nearestMultiple_38 : decode cX1_nearestMultiple 38 = .ok (.lload 7, 2) := by decide +kernel
theorem dX1_nearestMultiple_40 : decode cX1_nearestMultiple 40 = .ok (.lload 5, 2) := by decide +kernel
theorem dX1_nearestMultiple_42 : decode cX1_nearestMultiple 42 = .ok (.ladd, 1) := by decide +kernel
theorem dX1_nearestMultiple_43 : decode cX1_nearestMultiple 43 = .ok (.ldc2_w 83, 3) := by decide +kernel
theorem dX1_nearestMultiple_46 : decode cX1_nearestMultiple 46 = .ok (.lload 5, 2) := by decide +kernel
theorem dX1_nearestMultiple_48 : decode cX1_nearestMultiple 48 = .ok (.lmul, 1) := by decide +kernel
theorem dX1_nearestMultiple_49 : decode cX1_nearestMultiple 49 = .ok (.invokestatic 85, 3) := by decide +kernel
theorem dX1_nearestMultiple_52 : decode cX1_nearestMultiple 52 = .ok (.lreturn, 1) := by decide +kernel
theorem dX1_countShortest_0 : decode cX1_countShortest 0 = .ok (.aload_n 0, 1) := by decide +kernel
theorem dX1_countShortest_1 : decode cX1_countShortest 1 = .ok (.lload_n 1, 1) := by decide +kernel
theorem dX1_countShortest_2 : decode cX1_countShortest 2 = .ok (.invokevirtual 66, 3) := by decide +kernel
theorem dX1_countShortest_5 : decode cX1_countShortest 5 = .ok (.lstore 5, 2) := by decide +kernel
theorem dX1_countShortest_7 : decode cX1_countShortest 7 = .ok (.aload_n 0, 1) := by decide +kernel
theorem dX1_countShortest_8 : decode cX1_countShortest 8 = .ok (.lload_n 3, 1) := by decide +kernel
theorem dX1_countShortest_9 : decode cX1_countShortest 9 = .ok (.invokevirtual 66, 3) := by decide +kernel
theorem dX1_countShortest_12 : decode cX1_countShortest 12 = .ok (.lload 5, 2) := by decide +kernel
theorem dX1_countShortest_14 : decode cX1_countShortest 14 = .ok (.lcmp, 1) := by decide +kernel
theorem dX1_countShortest_15 : decode cX1_countShortest 15 = .ok (.ifCond .ne 7, 3) := by decide +kernel
theorem dX1_countShortest_18 : decode cX1_countShortest 18 = .ok (.iconst 4, 1) := by decide +kernel
theorem dX1_countShortest_19 : decode cX1_countShortest 19 = .ok (.goto 4, 3) := by decide +kernel
theorem dX1_countShortest_22 : decode cX1_countShortest 22 = .ok (.iconst 2, 1) := by decide +kernel
theorem dX1_countShortest_23 : decode cX1_countShortest 23 = .ok (.istore 7, 2) := by decide +kernel
theorem dX1_countShortest_25 : decode cX1_countShortest 25 = .ok (.iload 7, 2) := by decide +kernel
theorem dX1_countShortest_27 : decode cX1_countShortest 27 = .ok (.aload_n 0, 1) := by decide +kernel
theorem dX1_countShortest_28 : decode cX1_countShortest 28 = .ok (.lload_n 1, 1) := by decide +kernel
theorem dX1_countShortest_29 : decode cX1_countShortest 29 = .ok (.lload_n 3, 1) := by decide +kernel
theorem dX1_countShortest_30 : decode cX1_countShortest 30 = .ok (.invokestatic 80, 3) := by decide +kernel
theorem dX1_countShortest_33 : decode cX1_countShortest 33 = .ok (.invokevirtual 66, 3) := by decide +kernel
theorem dX1_countShortest_36 : decode cX1_countShortest 36 = .ok (.lload 5, 2) := by decide +kernel
theorem dX1_countShortest_38 : decode cX1_countShortest 38 = .ok (.lcmp, 1) := by decide +kernel
theorem dX1_countShortest_39 : decode cX1_countShortest 39 = .ok (.ifCond .ne 7, 3) := by decide +kernel
theorem dX1_countShortest_42 : decode cX1_countShortest 42 = .ok (.iconst 2, 1) := by decide +kernel
theorem dX1_countShortest_43 : decode cX1_countShortest 43 = .ok (.goto 4, 3) := by decide +kernel
theorem dX1_countShortest_46 : decode cX1_countShortest 46 = .ok (.iconst 0, 1) := by decide +kernel
theorem dX1_countShortest_47 : decode cX1_countShortest 47 = .ok (.iadd, 1) := by decide +kernel
theorem dX1_countShortest_48 : decode cX1_countShortest 48 = .ok (.istore 7, 2) := by decide +kernel
theorem dX1_countShortest_50 : decode cX1_countShortest 50 = .ok (.iload 7, 2) := by decide +kernel
theorem dX1_countShortest_52 : decode cX1_countShortest 52 = .ok (.aload_n 0, 1) := by decide +kernel
theorem dX1_countShortest_53 : decode cX1_countShortest 53 = .ok (.lload_n 1, 1) := by decide +kernel
theorem dX1_countShortest_54 : decode cX1_countShortest 54 = .ok (.lload_n 3, 1) := by decide +kernel
theorem dX1_countShortest_55 : decode cX1_countShortest 55 = .ok (.invokestatic 73, 3) := by decide +kernel
theorem dX1_countShortest_58 : decode cX1_countShortest 58 = .ok (.invokevirtual 66, 3) := by decide +kernel
theorem dX1_countShortest_61 : decode cX1_countShortest 61 = .ok (.lload 5, 2) := by decide +kernel
theorem dX1_countShortest_63 : decode cX1_countShortest 63 = .ok (.lcmp, 1) := by decide +kernel
theorem dX1_countShortest_64 : decode cX1_countShortest 64 = .ok (.ifCond .ne 7, 3) := by decide +kernel
theorem dX1_countShortest_67 : decode cX1_countShortest 67 = .ok (.iconst 2, 1) := by decide +kernel
theorem dX1_countShortest_68 : decode cX1_countShortest 68 = .ok (.goto 4, 3) := by decide +kernel
theorem dX1_countShortest_71 : decode cX1_countShortest 71 = .ok (.iconst 0, 1) := by decide +kernel
theorem dX1_countShortest_72 : decode cX1_countShortest 72 = .ok (.iadd, 1) := by decide +kernel
theorem dX1_countShortest_73 : decode cX1_countShortest 73 = .ok (.istore 7, 2) := by decide +kernel
theorem dX1_countShortest_75 : decode cX1_countShortest 75 = .ok (.iload 7, 2) := by decide +kernel
theorem dX1_countShortest_77 : decode cX1_countShortest 77 = .ok (.ireturn, 1) := by decide +kernel
theorem dX2_init_0 : decode cX2_init 0 = .ok (.aload_n 0, 1) := by decide +kernel
theorem dX2_init_1 : decode cX2_init 1 = .ok (.invokespecial 5, 3) := by decide +kernel
theorem dX2_init_4 : decode cX2_init 4 = .ok (.aload_n 0, 1) := by decide +kernel
theorem dX2_init_5 : decode cX2_init 5 = .ok (.bipush 12, 2) := by decide +kernel
theorem dX2_init_7 : decode cX2_init 7 = .ok (.newarray .long, 2) := by decide +kernel
theorem dX2_init_9 : decode cX2_init 9 = .ok (.putfield 11, 3) := by decide +kernel
theorem dX2_init_12 : decode cX2_init 12 = .ok (.aload_n 0, 1) := by decide +kernel
theorem dX2_init_13 : decode cX2_init 13 = .ok (.bipush 61, 2) := by decide +kernel
theorem dX2_init_15 : decode cX2_init 15 = .ok (.newarray .long, 2) := by decide +kernel
theorem dX2_init_17 : decode cX2_init 17 = .ok (.putfield 15, 3) := by decide +kernel
theorem dX2_init_20 : decode cX2_init 20 = .ok (.aload_n 0, 1) := by decide +kernel
theorem dX2_init_21 : decode cX2_init 21 = .ok (.bipush 61, 2) := by decide +kernel
theorem dX2_init_23 : decode cX2_init 23 = .ok (.newarray .long, 2) := by decide +kernel
theorem dX2_init_25 : decode cX2_init 25 = .ok (.putfield 18, 3) := by decide +kernel
theorem dX2_init_28 : decode cX2_init 28 = .ok (.aload_n 0, 1) := by decide +kernel
theorem dX2_init_29 : decode cX2_init 29 = .ok (.bipush 61, 2) := by decide +kernel
theorem dX2_init_31 : decode cX2_init 31 = .ok (.newarray .long, 2) := by decide +kernel
theorem dX2_init_33 : decode cX2_init 33 = .ok (.putfield 21, 3) := by decide +kernel
theorem dX2_init_36 : decode cX2_init 36 = .ok (.aload_n 0, 1) := by decide +kernel
theorem dX2_init_37 : decode cX2_init 37 = .ok (.aload_n 1, 1) := by decide +kernel
theorem dX2_init_38 : decode cX2_init 38 = .ok (.putfield 24, 3) := by decide +kernel
theorem dX2_init_41 : decode cX2_init 41 = .ok (.return_, 1) := by decide +kernel
theorem dX2_collect_0 : decode cX2_collect 0 = .ok (.aload_n 0, 1) := by decide +kernel
theorem dX2_collect_1 : decode cX2_collect 1 = .ok (.iconst 0, 1) := by decide +kernel
theorem dX2_collect_2 : decode cX2_collect 2 = .ok (.putfield 28, 3) := by decide +kernel
theorem dX2_collect_5 : decode cX2_collect 5 = .ok (.lload_n 1, 1) := by decide +kernel
theorem dX2_collect_6 : decode cX2_collect 6 = .ok (.lstore_n 3, 1) := by decide +kernel
theorem dX2_collect_7 : decode cX2_collect 7 = .ok (.aload_n 0, 1) := by decide +kernel
theorem dX2_collect_8 : decode cX2_collect 8 = .ok (.getfield 24, 3) := by decide +kernel
theorem dX2_collect_11 : decode cX2_collect 11 = .ok (.lload_n 1, 1) := by decide +kernel
theorem dX2_collect_12 : decode cX2_collect 12 = .ok (.invokevirtual 32, 3) := by decide +kernel
theorem dX2_collect_15 : decode cX2_collect 15 = .ok (.lstore 5, 2) := by decide +kernel
theorem dX2_collect_17 : decode cX2_collect 17 = .ok (.iconst 0, 1) := by decide +kernel
theorem dX2_collect_18 : decode cX2_collect 18 = .ok (.istore 7, 2) := by decide +kernel
theorem dX2_collect_20 : decode cX2_collect 20 = .ok (.iload 7, 2) := by decide +kernel
theorem dX2_collect_22 : decode cX2_collect 22 = .ok (.aload_n 0, 1) := by decide +kernel
theorem dX2_collect_23 : decode cX2_collect 23 = .ok (.getfield 24, 3) := by decide +kernel
theorem dX2_collect_26 : decode cX2_collect 26 = .ok (.getfield 38, 3) := by decide +kernel
theorem dX2_collect_29 : decode cX2_collect 29 = .ok (.if_icmp .ge 90, 3) := by decide +kernel
theorem dX2_collect_32 : decode cX2_collect 32 = .ok (.aload_n 0, 1) := by decide +kernel
theorem dX2_collect_33 : decode cX2_collect 33 = .ok (.getfield 28, 3) := by decide +kernel
theorem dX2_collect_36 : decode cX2_collect 36 = .ok (.iconst 2, 1) := by decide +kernel
theorem dX2_collect_37 : decode cX2_collect 37 = .ok (.iadd, 1) := by decide +kernel
theorem dX2_collect_38 : decode cX2_collect 38 = .ok (.aload_n 0, 1) := by decide +kernel
theorem dX2_collect_39 : decode cX2_collect 39 = .ok (.getfield 11, 3) := by decide +kernel
theorem dX2_collect_42 : decode cX2_collect 42 = .ok (.arraylength, 1) := by decide +kernel
theorem dX2_collect_43 : decode cX2_collect 43 = .ok (.if_icmp .gt 76, 3) := by decide +kernel
theorem dX2_collect_46 : decode cX2_collect 46 = .ok (.aload_n 0, 1) := by decide +kernel
theorem dX2_collect_47 : decode cX2_collect 47 = .ok (.getfield 11, 3) := by decide +kernel
theorem dX2_collect_50 : decode cX2_collect 50 = .ok (.aload_n 0, 1) := by decide +kernel
theorem dX2_collect_51 : decode cX2_collect 51 = .ok (.getfield 28, 3) := by decide +kernel
theorem dX2_collect_54 : decode cX2_collect 54 = .ok (.lload_n 3, 1) := by decide +kernel
theorem dX2_collect_55 : decode cX2_collect 55 = .ok (.lastore, 1) := by decide +kernel
theorem dX2_collect_56 : decode cX2_collect 56 = .ok (.aload_n 0, 1) := by decide +kernel
theorem dX2_collect_57 : decode cX2_collect 57 = .ok (.getfield 11, 3) := by decide +kernel
theorem dX2_collect_60 : decode cX2_collect 60 = .ok (.aload_n 0, 1) := by decide +kernel
theorem dX2_collect_61 : decode cX2_collect 61 = .ok (.getfield 28, 3) := by decide +kernel
theorem dX2_collect_64 : decode cX2_collect 64 = .ok (.iconst 1, 1) := by decide +kernel
theorem dX2_collect_65 : decode cX2_collect 65 = .ok (.iadd, 1) := by decide +kernel
theorem dX2_collect_66 : decode cX2_collect 66 = .ok (.lload 5, 2) := by decide +kernel
theorem dX2_collect_68 : decode cX2_collect 68 = .ok (.lastore, 1) := by decide +kernel
theorem dX2_collect_69 : decode cX2_collect 69 = .ok (.aload_n 0, 1) := by decide +kernel
theorem dX2_collect_70 : decode cX2_collect 70 = .ok (.dup, 1) := by decide +kernel
theorem dX2_collect_71 : decode cX2_collect 71 = .ok (.getfield 28, 3) := by decide +kernel
theorem dX2_collect_74 : decode cX2_collect 74 = .ok (.iconst 2, 1) := by decide +kernel
theorem dX2_collect_75 : decode cX2_collect 75 = .ok (.iadd, 1) := by decide +kernel
theorem dX2_collect_76 : decode cX2_collect 76 = .ok (.putfield 28, 3) := by decide +kernel
theorem dX2_collect_79 : decode cX2_collect 79 = .ok (.aload_n 0, 1) := by decide +kernel
theorem dX2_collect_80 : decode cX2_collect 80 = .ok (.getfield 24, 3) := by decide +kernel
theorem dX2_collect_83 : decode cX2_collect 83 = .ok (.lload_n 3, 1) := by decide +kernel
theorem dX2_collect_84 : decode cX2_collect 84 = .ok (.aload_n 0, 1) := by decide +kernel
theorem dX2_collect_85 : decode cX2_collect 85 = .ok (.getfield 24, 3) := by decide +kernel
theorem dX2_collect_88 : decode cX2_collect 88 = .ok (.getfield 41, 3) := by decide +kernel
theorem dX2_collect_91 : decode cX2_collect 91 = .ok (.invokevirtual 45, 3) := by decide +kernel
theorem dX2_collect_94 : decode cX2_collect 94 = .ok (.lstore_n 3, 1) := by decide +kernel
theorem dX2_collect_95 : decode cX2_collect 95 = .ok (.aload_n 0, 1) := by decide +kernel
theorem dX2_collect_96 : decode cX2_collect 96 = .ok (.getfield 24, 3) := by decide +kernel
theorem dX2_collect_99 : decode cX2_collect 99 = .ok (.lload 5, 2) := by decide +kernel
theorem dX2_collect_101 : decode cX2_collect 101 = .ok (.aload_n 0, 1) := by decide +kernel
theorem dX2_collect_102 : decode cX2_collect 102 = .ok (.getfield 24, 3) := by decide +kernel
theorem dX2_collect_105 : decode cX2_collect 105 = .ok (.getfield 41, 3) := by decide +kernel
theorem dX2_collect_108 : decode cX2_collect 108 = .ok (.invokevirtual 45, 3) := by decide +kernel
theorem dX2_collect_111 : decode cX2_collect 111 = .ok (.lstore 5, 2) := by decide +kernel
theorem dX2_collect_113 : decode cX2_collect 113 = .ok (.iinc 7 1, 3) := by decide +kernel
theorem dX2_collect_116 : decode cX2_collect 116 = .ok (.goto (-96), 3) := by decide +kernel
theorem dX2_collect_119 : decode cX2_collect 119 = .ok (.return_, 1) := by decide +kernel
theorem dX2_fewest_0 : decode cX2_fewest 0 = .ok (.lload_n 1, 1) := by decide +kernel
theorem dX2_fewest_1 : decode cX2_fewest 1 = .ok (.invokestatic 49, 3) := by decide +kernel
theorem dX2_fewest_4 : decode cX2_fewest 4 = .ok (.ldc2_w 52, 3) := by decide +kernel
theorem dX2_fewest_7 : decode cX2_fewest 7 = .ok (.ladd, 1) := by decide +kernel
theorem dX2_fewest_8 : decode cX2_fewest 8 = .ok (.lstore_n 3, 1) := by decide +kernel
theorem dX2_fewest_9 : decode cX2_fewest 9 = .ok (.lload_n 1, 1) := by decide +kernel
theorem dX2_fewest_10 : decode cX2_fewest 10 = .ok (.invokestatic 54, 3) := by decide +kernel
theorem dX2_fewest_13 : decode cX2_fewest 13 = .ok (.ldc2_w 52, 3) := by decide +kernel
theorem dX2_fewest_16 : decode cX2_fewest 16 = .ok (.ladd, 1) := by decide +kernel
theorem dX2_fewest_17 : decode cX2_fewest 17 = .ok (.lstore 5, 2) := by decide +kernel
theorem dX2_fewest_19 : decode cX2_fewest 19 = .ok (.lload_n 3, 1) := by decide +kernel
theorem dX2_fewest_20 : decode cX2_fewest 20 = .ok (.lconst 0, 1) := by decide +kernel
theorem dX2_fewest_21 : decode cX2_fewest 21 = .ok (.lcmp, 1) := by decide +kernel
theorem dX2_fewest_22 : decode cX2_fewest 22 = .ok (.ifCond .lt 27, 3) := by decide +kernel
theorem dX2_fewest_25 : decode cX2_fewest 25 = .ok (.lload_n 3, 1) := by decide +kernel
theorem dX2_fewest_26 : decode cX2_fewest 26 = .ok (.ldc2_w 57, 3) := by decide +kernel
theorem dX2_fewest_29 : decode cX2_fewest 29 = .ok (.lcmp, 1) := by decide +kernel
theorem dX2_fewest_30 : decode cX2_fewest 30 = .ok (.ifCond .ge 19, 3) := by decide +kernel
theorem dX2_fewest_33 : decode cX2_fewest 33 = .ok (.lload 5, 2) := by decide +kernel
theorem dX2_fewest_35 : decode cX2_fewest 35 = .ok (.lconst 0, 1) := by decide +kernel
theorem dX2_fewest_36 : decode cX2_fewest 36 = .ok (.lcmp, 1) := by decide +kernel
theorem dX2_fewest_37 : decode cX2_fewest 37 = .ok (.ifCond .lt 12, 3) := by decide +kernel
theorem dX2_fewest_40 : decode cX2_fewest 40 = .ok (.lload 5, 2) := by decide +kernel
theorem dX2_fewest_42 : decode cX2_fewest 42 = .ok (.ldc2_w 57, 3) := by decide +kernel
theorem dX2_fewest_45 : decode cX2_fewest 45 = .ok (.lcmp, 1) := by decide +kernel
theorem dX2_fewest_46 : decode cX2_fewest 46 = .ok (.ifCond .lt 6, 3) := by decide +kernel
theorem dX2_fewest_49 : decode cX2_fewest 49 = .ok (.bipush (-4), 2) := by decide +kernel
theorem dX2_fewest_51 : decode cX2_fewest 51 = .ok (.ireturn, 1) := by decide +kernel
theorem dX2_fewest_52 : decode cX2_fewest 52 = .ok (.aload_n 0, 1) := by decide +kernel
theorem dX2_fewest_53 : decode cX2_fewest 53 = .ok (.getfield 15, 3) := by decide +kernel
theorem dX2_fewest_56 : decode cX2_fewest 56 = .ok (.lconst 0, 1) := by decide +kernel
theorem dX2_fewest_57 : decode cX2_fewest 57 = .ok (.invokestatic 59, 3) := by decide +kernel
theorem dX2_fewest_60 : decode cX2_fewest 60 = .ok (.aload_n 0, 1) := by decide +kernel
theorem dX2_fewest_61 : decode cX2_fewest 61 = .ok (.getfield 18, 3) := by decide +kernel
theorem dX2_fewest_64 : decode cX2_fewest 64 = .ok (.lconst 0, 1) := by decide +kernel
theorem dX2_fewest_65 : decode cX2_fewest 65 = .ok (.invokestatic 59, 3) := by decide +kernel
theorem dX2_fewest_68 : decode cX2_fewest 68 = .ok (.aload_n 0, 1) := by decide +kernel
theorem dX2_fewest_69 : decode cX2_fewest 69 = .ok (.getfield 15, 3) := by decide +kernel
theorem dX2_fewest_72 : decode cX2_fewest 72 = .ok (.bipush 30, 2) := by decide +kernel
theorem dX2_fewest_74 : decode cX2_fewest 74 = .ok (.ldc2_w 65, 3) := by decide +kernel
theorem dX2_fewest_77 : decode cX2_fewest 77 = .ok (.lastore, 1) := by decide +kernel
theorem dX2_fewest_78 : decode cX2_fewest 78 = .ok (.aload_n 0, 1) := by decide +kernel
theorem dX2_fewest_79 : decode cX2_fewest 79 = .ok (.getfield 18, 3) := by decide +kernel
theorem dX2_fewest_82 : decode cX2_fewest 82 = .ok (.bipush 30, 2) := by decide +kernel
theorem dX2_fewest_84 : decode cX2_fewest 84 = .ok (.ldc2_w 65, 3) := by decide +kernel
theorem dX2_fewest_87 : decode cX2_fewest 87 = .ok (.lastore, 1) := by decide +kernel
theorem dX2_fewest_88 : decode cX2_fewest 88 = .ok (.iconst 0, 1) := by decide +kernel
theorem dX2_fewest_89 : decode cX2_fewest 89 = .ok (.istore 7, 2) := by decide +kernel
theorem dX2_fewest_91 : decode cX2_fewest 91 = .ok (.iload 7, 2) := by decide +kernel
theorem dX2_fewest_93 : decode cX2_fewest 93 = .ok (.sipush 3721, 3) := by decide +kernel
theorem dX2_fewest_96 : decode cX2_fewest 96 = .ok (.if_icmp .gt 40, 3) := by decide +kernel
theorem dX2_fewest_99 : decode cX2_fewest 99 = .ok (.aload_n 0, 1) := by decide +kernel
theorem dX2_fewest_100 : decode cX2_fewest 100 = .ok (.getfield 15, 3) := by decide +kernel
theorem dX2_fewest_103 : decode cX2_fewest 103 = .ok (.lload 5, 2) := by decide +kernel
theorem dX2_fewest_105 : decode cX2_fewest 105 = .ok (.l2i, 1) := by decide +kernel
theorem dX2_fewest_106 : decode cX2_fewest 106 = .ok (.laload, 1) := by decide +kernel
theorem dX2_fewest_107 : decode cX2_fewest 107 = .ok (.lload_n 3, 1) := by decide +kernel
theorem dX2_fewest_108 : decode cX2_fewest 108 = .ok (.l2i, 1) := by decide +kernel
theorem dX2_fewest_109 : decode cX2_fewest 109 = .ok (.lushr, 1) := by decide +kernel
theorem dX2_fewest_110 : decode cX2_fewest 110 = .ok (.lconst 1, 1) := by decide +kernel
theorem dX2_fewest_111 : decode cX2_fewest 111 = .ok (.land, 1) := by decide +kernel
theorem dX2_fewest_112 : decode cX2_fewest 112 = .ok (.lconst 0, 1) := by decide +kernel
theorem dX2_fewest_113 : decode cX2_fewest 113 = .ok (.lcmp, 1) := by decide +kernel
theorem dX2_fewest_114 : decode cX2_fewest 114 = .ok (.ifCond .eq 6, 3) := by decide +kernel
theorem dX2_fewest_117 : decode cX2_fewest 117 = .ok (.iload 7, 2) := by decide +kernel
theorem dX2_fewest_119 : decode cX2_fewest 119 = .ok (.ireturn, 1) := by decide +kernel
theorem dX2_fewest_120 : decode cX2_fewest 120 = .ok (.aload_n 0, 1) := by decide +kernel
theorem dX2_fewest_121 : decode cX2_fewest 121 = .ok (.invokevirtual 67, 3) := by decide +kernel
theorem dX2_fewest_124 : decode cX2_fewest 124 = .ok (.ifCond .ne 6, 3) := by decide +kernel
theorem dX2_fewest_127 : decode cX2_fewest 127 = .ok (.bipush (-4), 2) := by decide +kernel
theorem dX2_fewest_129 : decode cX2_fewest 129 = .ok (.ireturn, 1) := by decide +kernel
theorem dX2_fewest_130 : decode cX2_fewest 130 = .ok (.iinc 7 1, 3) := by decide +kernel
theorem dX2_fewest_133 : decode cX2_fewest 133 = .ok (.goto (-42), 3) := by decide +kernel
theorem dX2_fewest_136 : decode cX2_fewest 136 = .ok (.bipush (-4), 2) := by decide +kernel
theorem dX2_fewest_138 : decode cX2_fewest 138 = .ok (.ireturn, 1) := by decide +kernel
theorem dX2_spread_0 : decode cX2_spread 0 = .ok (.aload_n 0, 1) := by decide +kernel
theorem dX2_spread_1 : decode cX2_spread 1 = .ok (.getfield 21, 3) := by decide +kernel
theorem dX2_spread_4 : decode cX2_spread 4 = .ok (.lconst 0, 1) := by decide +kernel
theorem dX2_spread_5 : decode cX2_spread 5 = .ok (.invokestatic 59, 3) := by decide +kernel
theorem dX2_spread_8 : decode cX2_spread 8 = .ok (.iconst 0, 1) := by decide +kernel
theorem dX2_spread_9 : decode cX2_spread 9 = .ok (.istore_n 1, 1) := by decide +kernel
theorem dX2_spread_10 : decode cX2_spread 10 = .ok (.iload_n 1, 1) := by decide +kernel
theorem dX2_spread_11 : decode cX2_spread 11 = .ok (.aload_n 0, 1) := by decide +kernel
theorem dX2_spread_12 : decode cX2_spread 12 = .ok (.getfield 28, 3) := by decide +kernel
theorem dX2_spread_15 : decode cX2_spread 15 = .ok (.if_icmp .ge 31, 3) := by decide +kernel
theorem dX2_spread_18 : decode cX2_spread 18 = .ok (.aload_n 0, 1) := by decide +kernel
theorem dX2_spread_19 : decode cX2_spread 19 = .ok (.aload_n 0, 1) := by decide +kernel
theorem dX2_spread_20 : decode cX2_spread 20 = .ok (.getfield 11, 3) := by decide +kernel
theorem dX2_spread_23 : decode cX2_spread 23 = .ok (.iload_n 1, 1) := by decide +kernel
theorem dX2_spread_24 : decode cX2_spread 24 = .ok (.laload, 1) := by decide +kernel
theorem dX2_spread_25 : decode cX2_spread 25 = .ok (.invokestatic 49, 3) := by decide +kernel
theorem dX2_spread_28 : decode cX2_spread 28 = .ok (.aload_n 0, 1) := by decide +kernel
theorem dX2_spread_29 : decode cX2_spread 29 = .ok (.getfield 11, 3) := by decide +kernel
theorem dX2_spread_32 : decode cX2_spread 32 = .ok (.iload_n 1, 1) := by decide +kernel
theorem dX2_spread_33 : decode cX2_spread 33 = .ok (.laload, 1) := by decide +kernel
theorem dX2_spread_34 : decode cX2_spread 34 = .ok (.invokestatic 54, 3) := by decide +kernel
theorem dX2_spread_37 : decode cX2_spread 37 = .ok (.invokevirtual 71, 3) := by decide +kernel
theorem dX2_spread_40 : decode cX2_spread 40 = .ok (.iinc 1 1, 3) := by decide +kernel
theorem dX2_spread_43 : decode cX2_spread 43 = .ok (.goto (-33), 3) := by decide +kernel
theorem dX2_spread_46 : decode cX2_spread 46 = .ok (.iconst 0, 1) := by decide +kernel
theorem dX2_spread_47 : decode cX2_spread 47 = .ok (.istore_n 1, 1) := by decide +kernel
theorem dX2_spread_48 : decode cX2_spread 48 = .ok (.iconst 0, 1) := by decide +kernel
theorem dX2_spread_49 : decode cX2_spread 49 = .ok (.istore_n 2, 1) := by decide +kernel
theorem dX2_spread_50 : decode cX2_spread 50 = .ok (.iload_n 2, 1) := by decide +kernel
theorem dX2_spread_51 : decode cX2_spread 51 = .ok (.bipush 61, 2) := by decide +kernel
theorem dX2_spread_53 : decode cX2_spread 53 = .ok (.if_icmp .ge 66, 3) := by decide +kernel
theorem dX2_spread_56 : decode cX2_spread 56 = .ok (.aload_n 0, 1) := by decide +kernel
theorem dX2_spread_57 : decode cX2_spread 57 = .ok (.getfield 18, 3) := by decide +kernel
theorem dX2_spread_60 : decode cX2_spread 60 = .ok (.iload_n 2, 1) := by decide +kernel
theorem dX2_spread_61 : decode cX2_spread 61 = .ok (.aload_n 0, 1) := by decide +kernel
theorem dX2_spread_62 : decode cX2_spread 62 = .ok (.getfield 21, 3) := by decide +kernel
theorem dX2_spread_65 : decode cX2_spread 65 = .ok (.iload_n 2, 1) := by decide +kernel
theorem dX2_spread_66 : decode cX2_spread 66 = .ok (.laload, 1) := by decide +kernel
theorem dX2_spread_67 : decode cX2_spread 67 = .ok (.aload_n 0, 1) := by decide +kernel
theorem dX2_spread_68 : decode cX2_spread 68 = .ok (.getfield 15, 3) := by decide +kernel
theorem dX2_spread_71 : decode cX2_spread 71 = .ok (.iload_n 2, 1) := by decide +kernel
theorem dX2_spread_72 : decode cX2_spread 72 = .ok (.laload, 1) := by decide +kernel
theorem dX2_spread_73 : decode cX2_spread 73 = .ok (.ldc2_w 75, 3) := by decide +kernel
theorem dX2_spread_76 : decode cX2_spread 76 = .ok (.lxor, 1) := by decide +kernel
theorem dX2_spread_77 : decode cX2_spread 77 = .ok (.land, 1) := by decide +kernel
theorem dX2_spread_78 : decode cX2_spread 78 = .ok (.lastore, 1) := by decide +kernel
theorem dX2_spread_79 : decode cX2_spread 79 = .ok (.aload_n 0, 1) := by decide +kernel
theorem dX2_spread_80 : decode cX2_spread 80 = .ok (.getfield 15, 3) := by decide +kernel
theorem dX2_spread_83 : decode cX2_spread 83 = .ok (.iload_n 2, 1) := by decide +kernel
theorem dX2_spread_84 : decode cX2_spread 84 = .ok (.dup2, 1) := by decide +kernel
theorem dX2_spread_85 : decode cX2_spread 85 = .ok (.laload, 1) := by decide +kernel
theorem dX2_spread_86 : decode cX2_spread 86 = .ok (.aload_n 0, 1) := by decide +kernel
theorem dX2_spread_87 : decode cX2_spread 87 = .ok (.getfield 18, 3) := by decide +kernel
theorem dX2_spread_90 : decode cX2_spread 90 = .ok (.iload_n 2, 1) := by decide +kernel
theorem dX2_spread_91 : decode cX2_spread 91 = .ok (.laload, 1) := by decide +kernel
theorem dX2_spread_92 : decode cX2_spread 92 = .ok (.lor, 1) := by decide +kernel
theorem dX2_spread_93 : decode cX2_spread 93 = .ok (.lastore, 1) := by decide +kernel
theorem dX2_spread_94 : decode cX2_spread 94 = .ok (.iload_n 1, 1) := by decide +kernel
theorem dX2_spread_95 : decode cX2_spread 95 = .ok (.aload_n 0, 1) := by decide +kernel
theorem dX2_spread_96 : decode cX2_spread 96 = .ok (.getfield 18, 3) := by decide +kernel
theorem dX2_spread_99 : decode cX2_spread 99 = .ok (.iload_n 2, 1) := by decide +kernel
theorem dX2_spread_100 : decode cX2_spread 100 = .ok (.laload, 1) := by decide +kernel
theorem dX2_spread_101 : decode cX2_spread 101 = .ok (.lconst 0, 1) := by decide +kernel
theorem dX2_spread_102 : decode cX2_spread 102 = .ok (.lcmp, 1) := by decide +kernel
theorem dX2_spread_103 : decode cX2_spread 103 = .ok (.ifCond .eq 7, 3) := by decide +kernel
theorem dX2_spread_106 : decode cX2_spread 106 = .ok (.iconst 1, 1) := by decide +kernel
theorem dX2_spread_107 : decode cX2_spread 107 = .ok (.goto 4, 3) := by decide +kernel
theorem dX2_spread_110 : decode cX2_spread 110 = .ok (.iconst 0, 1) := by decide +kernel
theorem dX2_spread_111 : decode cX2_spread 111 = .ok (.ior, 1) := by decide +kernel
theorem dX2_spread_112 : decode cX2_spread 112 = .ok (.istore_n 1, 1) := by decide +kernel
theorem dX2_spread_113 : decode cX2_spread 113 = .ok (.iinc 2 1, 3) := by decide +kernel
theorem dX2_spread_116 : decode cX2_spread 116 = .ok (.goto (-66), 3) := by decide +kernel
theorem dX2_spread_119 : decode cX2_spread 119 = .ok (.iload_n 1, 1) := by decide +kernel
theorem dX2_spread_120 : decode cX2_spread 120 = .ok (.ireturn, 1) := by decide +kernel
theorem dX2_leapFromEdge_0 : decode cX2_leapFromEdge 0 = .ok (.lload_n 1, 1) := by decide +kernel
theorem dX2_leapFromEdge_1 : decode cX2_leapFromEdge 1 = .ok (.ldc2_w 77, 3) := by decide +kernel
theorem dX2_leapFromEdge_4 : decode cX2_leapFromEdge 4 = .ok (.lcmp, 1) := by decide +kernel
theorem dX2_leapFromEdge_5 : decode cX2_leapFromEdge 5 = .ok (.ifCond .le 27, 3) := by decide +kernel
theorem dX2_leapFromEdge_8 : decode cX2_leapFromEdge 8 = .ok (.lload_n 1, 1) := by decide +kernel
theorem dX2_leapFromEdge_9 : decode cX2_leapFromEdge 9 = .ok (.ldc2_w 57, 3) := by decide +kernel
theorem dX2_leapFromEdge_12 : decode cX2_leapFromEdge 12 = .ok (.lcmp, 1) := by decide +kernel
theorem dX2_leapFromEdge_13 : decode cX2_leapFromEdge 13 = .ok (.ifCond .ge 19, 3) := by decide +kernel
theorem dX2_leapFromEdge_16 : decode cX2_leapFromEdge 16 = .ok (.lload_n 3, 1) := by decide +kernel
theorem dX2_leapFromEdge_17 : decode cX2_leapFromEdge 17 = .ok (.ldc2_w 77, 3) := by decide +kernel
theorem dX2_leapFromEdge_20 : decode cX2_leapFromEdge 20 = .ok (.lcmp, 1) := by decide +kernel
theorem dX2_leapFromEdge_21 : decode cX2_leapFromEdge 21 = .ok (.ifCond .le 11, 3) := by decide +kernel
theorem dX2_leapFromEdge_24 : decode cX2_leapFromEdge 24 = .ok (.lload_n 3, 1) := by decide +kernel
theorem dX2_leapFromEdge_25 : decode cX2_leapFromEdge 25 = .ok (.ldc2_w 57, 3) := by decide +kernel
theorem dX2_leapFromEdge_28 : decode cX2_leapFromEdge 28 = .ok (.lcmp, 1) := by decide +kernel
theorem dX2_leapFromEdge_29 : decode cX2_leapFromEdge 29 = .ok (.ifCond .lt 4, 3) := by decide +kernel
theorem dX2_leapFromEdge_32 : decode cX2_leapFromEdge 32 = .ok (.return_, 1) := by decide +kernel
theorem dX2_leapFromEdge_33 : decode cX2_leapFromEdge 33 = .ok (.lconst 0, 1) := by decide +kernel
theorem dX2_leapFromEdge_34 : decode cX2_leapFromEdge 34 = .ok (.lload_n 3, 1) := by decide +kernel
theorem dX2_leapFromEdge_35 : decode cX2_leapFromEdge 35 = .ok (.lneg, 1) := by decide +kernel
theorem dX2_leapFromEdge_36 : decode cX2_leapFromEdge 36 = .ok (.invokestatic 79, 3) := by decide +kernel
theorem dX2_leapFromEdge_39 : decode cX2_leapFromEdge 39 = .ok (.l2i, 1) := by decide +kernel
theorem dX2_leapFromEdge_40 : decode cX2_leapFromEdge 40 = .ok (.istore 5, 2) := by decide +kernel
theorem dX2_leapFromEdge_42 : decode cX2_leapFromEdge 42 = .ok (.ldc2_w 57, 3) := by decide +kernel
theorem dX2_leapFromEdge_45 : decode cX2_leapFromEdge 45 = .ok (.ldc2_w 57, 3) := by decide +kernel
theorem dX2_leapFromEdge_48 : decode cX2_leapFromEdge 48 = .ok (.lload_n 3, 1) := by decide +kernel
theorem dX2_leapFromEdge_49 : decode cX2_leapFromEdge 49 = .ok (.lsub, 1) := by decide +kernel
theorem dX2_leapFromEdge_50 : decode cX2_leapFromEdge 50 = .ok (.invokestatic 84, 3) := by decide +kernel
theorem dX2_leapFromEdge_53 : decode cX2_leapFromEdge 53 = .ok (.l2i, 1) := by decide +kernel
theorem dX2_leapFromEdge_54 : decode cX2_leapFromEdge 54 = .ok (.istore 6, 2) := by decide +kernel
theorem dX2_leapFromEdge_56 : decode cX2_leapFromEdge 56 = .ok (.iload 5, 2) := by decide +kernel
theorem dX2_leapFromEdge_58 : decode cX2_leapFromEdge 58 = .ok (.istore 7, 2) := by decide +kernel
theorem dX2_leapFromEdge_60 : decode cX2_leapFromEdge 60 = .ok (.iload 7, 2) := by decide +kernel
theorem dX2_leapFromEdge_62 : decode cX2_leapFromEdge 62 = .ok (.iload 6, 2) := by decide +kernel
theorem dX2_leapFromEdge_64 : decode cX2_leapFromEdge 64 = .ok (.if_icmp .ge 60, 3) := by decide +kernel
theorem dX2_leapFromEdge_67 : decode cX2_leapFromEdge 67 = .ok (.lload_n 1, 1) := by decide +kernel
theorem dX2_leapFromEdge_68 : decode cX2_leapFromEdge 68 = .ok (.lconst 0, 1) := by decide +kernel
theorem dX2_leapFromEdge_69 : decode cX2_leapFromEdge 69 = .ok (.lcmp, 1) := by decide +kernel
theorem dX2_leapFromEdge_70 : decode cX2_leapFromEdge 70 = .ok (.ifCond .lt 16, 3) := by decide +kernel
theorem dX2_leapFromEdge_73 : decode cX2_leapFromEdge 73 = .ok (.aload_n 0, 1) := by decide +kernel
theorem dX2_leapFromEdge_74 : decode cX2_leapFromEdge 74 = .ok (.getfield 18, 3) := by decide +kernel
theorem dX2_leapFromEdge_77 : decode cX2_leapFromEdge 77 = .ok (.iload 7, 2) := by decide +kernel
theorem dX2_leapFromEdge_79 : decode cX2_leapFromEdge 79 = .ok (.laload, 1) := by decide +kernel
theorem dX2_leapFromEdge_80 : decode cX2_leapFromEdge 80 = .ok (.lload_n 1, 1) := by decide +kernel
theorem dX2_leapFromEdge_81 : decode cX2_leapFromEdge 81 = .ok (.l2i, 1) := by decide +kernel
theorem dX2_leapFromEdge_82 : decode cX2_leapFromEdge 82 = .ok (.lshl, 1) := by decide +kernel
theorem dX2_leapFromEdge_83 : decode cX2_leapFromEdge 83 = .ok (.goto 14, 3) := by decide +kernel
theorem dX2_leapFromEdge_86 : decode cX2_leapFromEdge 86 = .ok (.aload_n 0, 1) := by decide +kernel
theorem dX2_leapFromEdge_87 : decode cX2_leapFromEdge 87 = .ok (.getfield 18, 3) := by decide +kernel
theorem dX2_leapFromEdge_90 : decode cX2_leapFromEdge 90 = .ok (.iload 7, 2) := by decide +kernel
theorem dX2_leapFromEdge_92 : decode cX2_leapFromEdge 92 = .ok (.laload, 1) := by decide +kernel
theorem dX2_leapFromEdge_93 : decode cX2_leapFromEdge 93 = .ok (.lload_n 1, 1) := by decide +kernel
theorem dX2_leapFromEdge_94 : decode cX2_leapFromEdge 94 = .ok (.lneg, 1) := by decide +kernel
theorem dX2_leapFromEdge_95 : decode cX2_leapFromEdge 95 = .ok (.l2i, 1) := by decide +kernel
theorem dX2_leapFromEdge_96 : decode cX2_leapFromEdge 96 = .ok (.lushr, 1) := by decide +kernel
theorem dX2_leapFromEdge_97 : decode cX2_leapFromEdge 97 = .ok (.lstore 8, 2) := by decide +kernel
theorem dX2_leapFromEdge_99 : decode cX2_leapFromEdge 99 = .ok (.aload_n 0, 1) := by decide +kernel
theorem dX2_leapFromEdge_100 : decode cX2_leapFromEdge 100 = .ok (.getfield 21, 3) := by decide +kernel
theorem dX2_leapFromEdge_103 : decode cX2_leapFromEdge 103 = .ok (.iload 7, 2) := by decide +kernel
theorem dX2_leapFromEdge_105 : decode cX2_leapFromEdge 105 = .ok (.lload_n 3, 1) := by decide +kernel
theorem dX2_leapFromEdge_106 : decode cX2_leapFromEdge 106 = .ok (.l2i, 1) := by decide +kernel
theorem dX2_leapFromEdge_107 : decode cX2_leapFromEdge 107 = .ok (.iadd, 1) := by decide +kernel
theorem dX2_leapFromEdge_108 : decode cX2_leapFromEdge 108 = .ok (.dup2, 1) := by decide +kernel
theorem dX2_leapFromEdge_109 : decode cX2_leapFromEdge 109 = .ok (.laload, 1) := by decide +kernel
theorem dX2_leapFromEdge_110 : decode cX2_leapFromEdge 110 = .ok (.lload 8, 2) := by decide +kernel
theorem dX2_leapFromEdge_112 : decode cX2_leapFromEdge 112 = .ok (.ldc2_w 87, 3) := by decide +kernel
theorem dX2_leapFromEdge_115 : decode cX2_leapFromEdge 115 = .ok (.land, 1) := by decide +kernel
theorem dX2_leapFromEdge_116 : decode cX2_leapFromEdge 116 = .ok (.lor, 1) := by decide +kernel
theorem dX2_leapFromEdge_117 : decode cX2_leapFromEdge 117 = .ok (.lastore, 1) := by decide +kernel
theorem dX2_leapFromEdge_118 : decode cX2_leapFromEdge 118 = .ok (.iinc 7 1, 3) := by decide +kernel
theorem dX2_leapFromEdge_121 : decode cX2_leapFromEdge 121 = .ok (.goto (-61), 3) := by decide +kernel
theorem dX2_leapFromEdge_124 : decode cX2_leapFromEdge 124 = .ok (.return_, 1) := by decide +kernel
theorem dX3_init_0 : decode cX3_init 0 = .ok (.aload_n 0, 1) := by decide +kernel
theorem dX3_init_1 : decode cX3_init 1 = .ok (.invokespecial 3, 3) := by decide +kernel
theorem dX3_init_4 : decode cX3_init 4 = .ok (.aload_n 0, 1) := by decide +kernel
theorem dX3_init_5 : decode cX3_init 5 = .ok (.aload_n 1, 1) := by decide +kernel
theorem dX3_init_6 : decode cX3_init 6 = .ok (.putfield 9, 3) := by decide +kernel
theorem dX3_init_9 : decode cX3_init 9 = .ok (.return_, 1) := by decide +kernel
theorem dX3_find_0 : decode cX3_find 0 = .ok (.aload_n 0, 1) := by decide +kernel
theorem dX3_find_1 : decode cX3_find 1 = .ok (.lload_n 1, 1) := by decide +kernel
theorem dX3_find_2 : decode cX3_find 2 = .ok (.putfield 15, 3) := by decide +kernel
theorem dX3_find_5 : decode cX3_find 5 = .ok (.aload_n 0, 1) := by decide +kernel
theorem dX3_find_6 : decode cX3_find 6 = .ok (.ldc2_w 21, 3) := by decide +kernel
theorem dX3_find_9 : decode cX3_find 9 = .ok (.putfield 23, 3) := by decide +kernel
theorem dX3_find_12 : decode cX3_find 12 = .ok (.aload_n 0, 1) := by decide +kernel
theorem dX3_find_13 : decode cX3_find 13 = .ok (.lconst 0, 1) := by decide +kernel
theorem dX3_find_14 : decode cX3_find 14 = .ok (.putfield 26, 3) := by decide +kernel
theorem dX3_find_17 : decode cX3_find 17 = .ok (.lload_n 3, 1) := by decide +kernel
theorem dX3_find_18 : decode cX3_find 18 = .ok (.lstore 5, 2) := by decide +kernel
theorem dX3_find_20 : decode cX3_find 20 = .ok (.lconst 0, 1) := by decide +kernel
theorem dX3_find_21 : decode cX3_find 21 = .ok (.lstore 7, 2) := by decide +kernel
theorem dX3_find_23 : decode cX3_find 23 = .ok (.ldc2_w 21, 3) := by decide +kernel
theorem dX3_find_26 : decode cX3_find 26 = .ok (.lstore 9, 2) := by decide +kernel
theorem dX3_find_28 : decode cX3_find 28 = .ok (.iconst 0, 1) := by decide +kernel
theorem dX3_find_29 : decode cX3_find 29 = .ok (.istore 11, 2) := by decide +kernel
theorem dX3_find_31 : decode cX3_find 31 = .ok (.iload 11, 2) := by decide +kernel
theorem dX3_find_33 : decode cX3_find 33 = .ok (.ldc 29, 2) := by decide +kernel
theorem dX3_find_35 : decode cX3_find 35 = .ok (.if_icmp .ge 121, 3) := by decide +kernel
theorem dX3_find_38 : decode cX3_find 38 = .ok (.lload 5, 2) := by decide +kernel
theorem dX3_find_40 : decode cX3_find 40 = .ok (.lconst 0, 1) := by decide +kernel
theorem dX3_find_41 : decode cX3_find 41 = .ok (.lcmp, 1) := by decide +kernel
theorem dX3_find_42 : decode cX3_find 42 = .ok (.ifCond .eq 114, 3) := by decide +kernel
theorem dX3_find_45 : decode cX3_find 45 = .ok (.aload_n 0, 1) := by decide +kernel
theorem dX3_find_46 : decode cX3_find 46 = .ok (.getfield 9, 3) := by decide +kernel
theorem dX3_find_49 : decode cX3_find 49 = .ok (.aload_n 0, 1) := by decide +kernel
theorem dX3_find_50 : decode cX3_find 50 = .ok (.getfield 15, 3) := by decide +kernel
theorem dX3_find_53 : decode cX3_find 53 = .ok (.lload 5, 2) := by decide +kernel
theorem dX3_find_55 : decode cX3_find 55 = .ok (.invokevirtual 30, 3) := by decide +kernel
theorem dX3_find_58 : decode cX3_find 58 = .ok (.lstore 12, 2) := by decide +kernel
theorem dX3_find_60 : decode cX3_find 60 = .ok (.aload_n 0, 1) := by decide +kernel
theorem dX3_find_61 : decode cX3_find 61 = .ok (.getfield 15, 3) := by decide +kernel
theorem dX3_find_64 : decode cX3_find 64 = .ok (.aload_n 0, 1) := by decide +kernel
theorem dX3_find_65 : decode cX3_find 65 = .ok (.getfield 9, 3) := by decide +kernel
theorem dX3_find_68 : decode cX3_find 68 = .ok (.lload 12, 2) := by decide +kernel
theorem dX3_find_70 : decode cX3_find 70 = .ok (.lload 5, 2) := by decide +kernel
theorem dX3_find_72 : decode cX3_find 72 = .ok (.invokevirtual 34, 3) := by decide +kernel
theorem dX3_find_75 : decode cX3_find 75 = .ok (.invokestatic 37, 3) := by decide +kernel
theorem dX3_find_78 : decode cX3_find 78 = .ok (.lstore 14, 2) := by decide +kernel
theorem dX3_find_80 : decode cX3_find 80 = .ok (.aload_n 0, 1) := by decide +kernel
theorem dX3_find_81 : decode cX3_find 81 = .ok (.getfield 23, 3) := by decide +kernel
theorem dX3_find_84 : decode cX3_find 84 = .ok (.aload_n 0, 1) := by decide +kernel
theorem dX3_find_85 : decode cX3_find 85 = .ok (.getfield 9, 3) := by decide +kernel
theorem dX3_find_88 : decode cX3_find 88 = .ok (.lload 12, 2) := by decide +kernel
theorem dX3_find_90 : decode cX3_find 90 = .ok (.lload 7, 2) := by decide +kernel
theorem dX3_find_92 : decode cX3_find 92 = .ok (.invokevirtual 34, 3) := by decide +kernel
theorem dX3_find_95 : decode cX3_find 95 = .ok (.invokestatic 37, 3) := by decide +kernel
theorem dX3_find_98 : decode cX3_find 98 = .ok (.lstore 16, 2) := by decide +kernel
theorem dX3_find_100 : decode cX3_find 100 = .ok (.aload_n 0, 1) := by decide +kernel
theorem dX3_find_101 : decode cX3_find 101 = .ok (.getfield 26, 3) := by decide +kernel
theorem dX3_find_104 : decode cX3_find 104 = .ok (.aload_n 0, 1) := by decide +kernel
theorem dX3_find_105 : decode cX3_find 105 = .ok (.getfield 9, 3) := by decide +kernel
theorem dX3_find_108 : decode cX3_find 108 = .ok (.lload 12, 2) := by decide +kernel
theorem dX3_find_110 : decode cX3_find 110 = .ok (.lload 9, 2) := by decide +kernel
theorem dX3_find_112 : decode cX3_find 112 = .ok (.invokevirtual 34, 3) := by decide +kernel
theorem dX3_find_115 : decode cX3_find 115 = .ok (.invokestatic 37, 3) := by decide +kernel
theorem dX3_find_118 : decode cX3_find 118 = .ok (.lstore 18, 2) := by decide +kernel
theorem dX3_find_120 : decode cX3_find 120 = .ok (.aload_n 0, 1) := by decide +kernel
theorem dX3_find_121 : decode cX3_find 121 = .ok (.lload 5, 2) := by decide +kernel
theorem dX3_find_123 : decode cX3_find 123 = .ok (.putfield 15, 3) := by decide +kernel
theorem dX3_find_126 : decode cX3_find 126 = .ok (.aload_n 0, 1) := by decide +kernel
theorem dX3_find_127 : decode cX3_find 127 = .ok (.lload 7, 2) := by decide +kernel
theorem dX3_find_129 : decode cX3_find 129 = .ok (.putfield 23, 3) := by decide +kernel
theorem dX3_find_132 : decode cX3_find 132 = .ok (.aload_n 0, 1) := by decide +kernel
theorem dX3_find_133 : decode cX3_find 133 = .ok (.lload 9, 2) := by decide +kernel
theorem dX3_find_135 : decode cX3_find 135 = .ok (.putfield 26, 3) := by decide +kernel
theorem dX3_find_138 : decode cX3_find 138 = .ok (.lload 14, 2) := by decide +kernel
theorem dX3_find_140 : decode cX3_find 140 = .ok (.lstore 5, 2) := by decide +kernel
theorem dX3_find_142 : decode cX3_find 142 = .ok (.lload 16, 2) := by decide +kernel
theorem dX3_find_144 : decode cX3_find 144 = .ok (.lstore 7, 2) := by decide +kernel
theorem dX3_find_146 : decode cX3_find 146 = .ok (.lload 18, 2) := by decide +kernel
theorem dX3_find_148 : decode cX3_find 148 = .ok (.lstore 9, 2) := by decide +kernel
theorem dX3_find_150 : decode cX3_find 150 = .ok (.iinc 11 1, 3) := by decide +kernel
theorem dX3_find_153 : decode cX3_find 153 = .ok (.goto (-122), 3) := by decide +kernel
theorem dX3_find_156 : decode cX3_find 156 = .ok (.aload_n 0, 1) := by decide +kernel
theorem dX3_find_157 : decode cX3_find 157 = .ok (.getfield 9, 3) := by decide +kernel
theorem dX3_find_160 : decode cX3_find 160 = .ok (.aload_n 0, 1) := by decide +kernel
theorem dX3_find_161 : decode cX3_find 161 = .ok (.getfield 15, 3) := by decide +kernel
theorem dX3_find_164 : decode cX3_find 164 = .ok (.invokevirtual 40, 3) := by decide +kernel
theorem dX3_find_167 : decode cX3_find 167 = .ok (.lstore 11, 2) := by decide +kernel
theorem dX3_find_169 : decode cX3_find 169 = .ok (.aload_n 0, 1) := by decide +kernel
theorem dX3_find_170 : decode cX3_find 170 = .ok (.aload_n 0, 1) := by decide +kernel
theorem dX3_find_171 : decode cX3_find 171 = .ok (.getfield 9, 3) := by decide +kernel
theorem dX3_find_174 : decode cX3_find 174 = .ok (.lload 11, 2) := by decide +kernel
theorem dX3_find_176 : decode cX3_find 176 = .ok (.aload_n 0, 1) := by decide +kernel
theorem dX3_find_177 : decode cX3_find 177 = .ok (.getfield 15, 3) := by decide +kernel
theorem dX3_find_180 : decode cX3_find 180 = .ok (.invokevirtual 34, 3) := by decide +kernel
theorem dX3_find_183 : decode cX3_find 183 = .ok (.putfield 15, 3) := by decide +kernel
theorem dX3_find_186 : decode cX3_find 186 = .ok (.aload_n 0, 1) := by decide +kernel
theorem dX3_find_187 : decode cX3_find 187 = .ok (.aload_n 0, 1) := by decide +kernel
theorem dX3_find_188 : decode cX3_find 188 = .ok (.getfield 9, 3) := by decide +kernel
theorem dX3_find_191 : decode cX3_find 191 = .ok (.lload 11, 2) := by decide +kernel
theorem dX3_find_193 : decode cX3_find 193 = .ok (.aload_n 0, 1) := by decide +kernel
theorem dX3_find_194 : decode cX3_find 194 = .ok (.getfield 23, 3) := by decide +kernel
theorem dX3_find_197 : decode cX3_find 197 = .ok (.invokevirtual 34, 3) := by decide +kernel
theorem dX3_find_200 : decode cX3_find 200 = .ok (.putfield 23, 3) := by decide +kernel
theorem dX3_find_203 : decode cX3_find 203 = .ok (.aload_n 0, 1) := by decide +kernel
theorem dX3_find_204 : decode cX3_find 204 = .ok (.aload_n 0, 1) := by decide +kernel
theorem dX3_find_205 : decode cX3_find 205 = .ok (.getfield 9, 3) := by decide +kernel
theorem dX3_find_208 : decode cX3_find 208 = .ok (.lload 11, 2) := by decide +kernel
theorem dX3_find_210 : decode cX3_find 210 = .ok (.aload_n 0, 1) := by decide +kernel
theorem dX3_find_211 : decode cX3_find 211 = .ok (.getfield 26, 3) := by decide +kernel
theorem dX3_find_214 : decode cX3_find 214 = .ok (.invokevirtual 34, 3) := by decide +kernel
theorem dX3_find_217 : decode cX3_find 217 = .ok (.putfield 26, 3) := by decide +kernel
theorem dX3_find_220 : decode cX3_find 220 = .ok (.return_, 1) := by decide +kernel
theorem dX4_init_0 : decode cX4_init 0 = .ok (.aload_n 0, 1) := by decide +kernel
theorem dX4_init_1 : decode cX4_init 1 = .ok (.invokespecial 3, 3) := by decide +kernel
theorem dX4_init_4 : decode cX4_init 4 = .ok (.aload_n 0, 1) := by decide +kernel
theorem dX4_init_5 : decode cX4_init 5 = .ok (.iconst 0, 1) := by decide +kernel
theorem dX4_init_6 : decode cX4_init 6 = .ok (.invokevirtual 9, 3) := by decide +kernel
theorem dX4_init_9 : decode cX4_init 9 = .ok (.return_, 1) := by decide +kernel
theorem dX4_become_0 : decode cX4_become 0 = .ok (.iload_n 1, 1) := by decide +kernel
theorem dX4_become_1 : decode cX4_become 1 = .ok (.ifCond .lt 8, 3) := by decide +kernel
theorem dX4_become_4 : decode cX4_become 4 = .ok (.iload_n 1, 1) := by decide +kernel
theorem dX4_become_5 : decode cX4_become 5 = .ok (.iconst 5, 1) := by decide +kernel
theorem dX4_become_6 : decode cX4_become 6 = .ok (.if_icmp .lt 4, 3) := by decide +kernel
theorem dX4_become_9 : decode cX4_become 9 = .ok (.return_, 1) := by decide +kernel
theorem dX4_become_10 : decode cX4_become 10 = .ok (.aload_n 0, 1) := by decide +kernel
theorem dX4_become_11 : decode cX4_become 11 = .ok (.getstatic 15, 3) := by decide +kernel
theorem dX4_become_14 : decode cX4_become 14 = .ok (.iload_n 1, 1) := by decide +kernel
theorem dX4_become_15 : decode cX4_become 15 = .ok (.iaload, 1) := by decide +kernel
theorem dX4_become_16 : decode cX4_become 16 = .ok (.putfield 19, 3) := by decide +kernel
theorem dX4_become_19 : decode cX4_become 19 = .ok (.aload_n 0, 1) := by decide +kernel
theorem dX4_become_20 : decode cX4_become 20 = .ok (.getstatic 23, 3) := by decide +kernel
theorem dX4_become_23 : decode cX4_become 23 = .ok (.iload_n 1, 1) := by decide +kernel
theorem dX4_become_24 : decode cX4_become 24 = .ok (.iaload, 1) := by decide +kernel
theorem dX4_become_25 : decode cX4_become 25 = .ok (.putfield 26, 3) := by decide +kernel
theorem dX4_become_28 : decode cX4_become 28 = .ok (.aload_n 0, 1) := by decide +kernel
theorem dX4_become_29 : decode cX4_become 29 = .ok (.iload_n 1, 1) := by decide +kernel
theorem dX4_become_30 : decode cX4_become 30 = .ok (.ifCond .ne 7, 3) := by decide +kernel
theorem dX4_become_33 : decode cX4_become 33 = .ok (.iconst 4, 1) := by decide +kernel
theorem dX4_become_34 : decode cX4_become 34 = .ok (.goto 14, 3) := by decide +kernel
theorem dX4_become_37 : decode cX4_become 37 = .ok (.iload_n 1, 1) := by decide +kernel
theorem dX4_become_38 : decode cX4_become 38 = .ok (.iconst 1, 1) := by decide +kernel
theorem dX4_become_39 : decode cX4_become 39 = .ok (.if_icmp .ne 8, 3) := by decide +kernel
theorem dX4_become_42 : decode cX4_become 42 = .ok (.bipush 6, 2) := by decide +kernel
theorem dX4_become_44 : decode cX4_become 44 = .ok (.goto 4, 3) := by decide +kernel
theorem dX4_become_47 : decode cX4_become 47 = .ok (.iconst 2, 1) := by decide +kernel
theorem dX4_become_48 : decode cX4_become 48 = .ok (.putfield 29, 3) := by decide +kernel
theorem dX4_become_51 : decode cX4_become 51 = .ok (.aload_n 0, 1) := by decide +kernel
theorem dX4_become_52 : decode cX4_become 52 = .ok (.iload_n 1, 1) := by decide +kernel
theorem dX4_become_53 : decode cX4_become 53 = .ok (.ifCond .ne 7, 3) := by decide +kernel
theorem dX4_become_56 : decode cX4_become 56 = .ok (.lconst 1, 1) := by decide +kernel
theorem dX4_become_57 : decode cX4_become 57 = .ok (.goto 23, 3) := by decide +kernel
theorem dX4_become_60 : decode cX4_become 60 = .ok (.iload_n 1, 1) := by decide +kernel
theorem dX4_become_61 : decode cX4_become 61 = .ok (.iconst 1, 1) := by decide +kernel
theorem dX4_become_62 : decode cX4_become 62 = .ok (.if_icmp .ne 11, 3) := by decide +kernel
theorem dX4_become_65 : decode cX4_become 65 = .ok (.lconst 1, 1) := by decide +kernel
theorem dX4_become_66 : decode cX4_become 66 = .ok (.lconst 1, 1) := by decide +kernel
theorem dX4_become_67 : decode cX4_become 67 = .ok (.invokestatic 32, 3) := by decide +kernel
theorem dX4_become_70 : decode cX4_become 70 = .ok (.goto 10, 3) := by decide +kernel
theorem dX4_become_73 : decode cX4_become 73 = .ok (.ldc2_w 36, 3) := by decide +kernel
theorem dX4_become_76 : decode cX4_become 76 = .ok (.lconst 0, 1) := by decide +kernel
theorem dX4_become_77 : decode cX4_become 77 = .ok (.invokestatic 32, 3) := by decide +kernel
theorem dX4_become_80 : decode cX4_become 80 = .ok (.putfield 38, 3) := by decide +kernel
theorem dX4_become_83 : decode cX4_become 83 = .ok (.return_, 1) := by decide +kernel
theorem dX4_number_0 : decode cX4_number 0 = .ok (.lload_n 0, 1) := by decide +kernel
theorem dX4_number_1 : decode cX4_number 1 = .ok (.bipush 32, 2) := by decide +kernel
theorem dX4_number_3 : decode cX4_number 3 = .ok (.lshl, 1) := by decide +kernel
theorem dX4_number_4 : decode cX4_number 4 = .ok (.lload_n 2, 1) := by decide +kernel
theorem dX4_number_5 : decode cX4_number 5 = .ok (.ldc2_w 42, 3) := by decide +kernel
theorem dX4_number_8 : decode cX4_number 8 = .ok (.land, 1) := by decide +kernel
theorem dX4_number_9 : decode cX4_number 9 = .ok (.lor, 1) := by decide +kernel
theorem dX4_number_10 : decode cX4_number 10 = .ok (.lreturn, 1) := by decide +kernel
theorem dX4_first_0 : decode cX4_first 0 = .ok (.lload_n 0, 1) := by decide +kernel
theorem dX4_first_1 : decode cX4_first 1 = .ok (.bipush 32, 2) := by decide +kernel
theorem dX4_first_3 : decode cX4_first 3 = .ok (.lshr, 1) := by decide +kernel
theorem dX4_first_4 : decode cX4_first 4 = .ok (.lreturn, 1) := by decide +kernel
theorem dX4_second_0 : decode cX4_second 0 = .ok (.lload_n 0, 1) := by decide +kernel
theorem dX4_second_1 : decode cX4_second 1 = .ok (.l2i, 1) := by decide +kernel
theorem dX4_second_2 : decode cX4_second 2 = .ok (.i2l, 1) := by decide +kernel
theorem dX4_second_3 : decode cX4_second 3 = .ok (.lreturn, 1) := by decide +kernel
theorem dX4_plus_0 : decode cX4_plus 0 = .ok (.lload_n 0, 1) := by decide +kernel
theorem dX4_plus_1 : decode cX4_plus 1 = .ok (.invokestatic 44, 3) := by decide +kernel
theorem dX4_plus_4 : decode cX4_plus 4 = .ok (.lload_n 2, 1) := by decide +kernel
theorem dX4_plus_5 : decode cX4_plus 5 = .ok (.invokestatic 44, 3) := by decide +kernel
theorem dX4_plus_8 : decode cX4_plus 8 = .ok (.ladd, 1) := by decide +kernel
theorem dX4_plus_9 : decode cX4_plus 9 = .ok (.lload_n 0, 1) := by decide +kernel
theorem dX4_plus_10 : decode cX4_plus 10 = .ok (.invokestatic 48, 3) := by decide +kernel
theorem dX4_plus_13 : decode cX4_plus 13 = .ok (.lload_n 2, 1) := by decide +kernel
theorem dX4_plus_14 : decode cX4_plus 14 = .ok (.invokestatic 48, 3) := by decide +kernel
theorem dX4_plus_17 : decode cX4_plus 17 = .ok (.ladd, 1) := by decide +kernel
theorem dX4_plus_18 : decode cX4_plus 18 = .ok (.invokestatic 32, 3) := by decide +kernel
theorem dX4_plus_21 : decode cX4_plus 21 = .ok (.lreturn, 1) := by decide +kernel
theorem dX4_less_0 : decode cX4_less 0 = .ok (.lload_n 0, 1) := by decide +kernel
theorem dX4_less_1 : decode cX4_less 1 = .ok (.invokestatic 44, 3) := by decide +kernel
theorem dX4_less_4 : decode cX4_less 4 = .ok (.lload_n 2, 1) := by decide +kernel
theorem dX4_less_5 : decode cX4_less 5 = .ok (.invokestatic 44, 3) := by decide +kernel
theorem dX4_less_8 : decode cX4_less 8 = .ok (.lsub, 1) := by decide +kernel
theorem dX4_less_9 : decode cX4_less 9 = .ok (.lload_n 0, 1) := by decide +kernel
theorem dX4_less_10 : decode cX4_less 10 = .ok (.invokestatic 48, 3) := by decide +kernel
theorem dX4_less_13 : decode cX4_less 13 = .ok (.lload_n 2, 1) := by decide +kernel
theorem dX4_less_14 : decode cX4_less 14 = .ok (.invokestatic 48, 3) := by decide +kernel
theorem dX4_less_17 : decode cX4_less 17 = .ok (.lsub, 1) := by decide +kernel
theorem dX4_less_18 : decode cX4_less 18 = .ok (.invokestatic 32, 3) := by decide +kernel
theorem dX4_less_21 : decode cX4_less 21 = .ok (.lreturn, 1) := by decide +kernel
theorem dX4_isGreater_0 : decode cX4_isGreater 0 = .ok (.lload_n 0, 1) := by decide +kernel
theorem dX4_isGreater_1 : decode cX4_isGreater 1 = .ok (.invokestatic 44, 3) := by decide +kernel
theorem dX4_isGreater_4 : decode cX4_isGreater 4 = .ok (.lload_n 2, 1) := by decide +kernel
theorem dX4_isGreater_5 : decode cX4_isGreater 5 = .ok (.invokestatic 44, 3) := by decide +kernel
theorem dX4_isGreater_8 : decode cX4_isGreater 8 = .ok (.lcmp, 1) := by decide +kernel
theorem dX4_isGreater_9 : decode cX4_isGreater 9 = .ok (.ifCond .gt 27, 3) := by decide +kernel
theorem dX4_isGreater_12 : decode cX4_isGreater 12 = .ok (.lload_n 0, 1) := by decide +kernel
theorem dX4_isGreater_13 : decode cX4_isGreater 13 = .ok (.invokestatic 44, 3) := by decide +kernel
theorem dX4_isGreater_16 : decode cX4_isGreater 16 = .ok (.lload_n 2, 1) := by decide +kernel
theorem dX4_isGreater_17 : decode cX4_isGreater 17 = .ok (.invokestatic 44, 3) := by decide +kernel
theorem dX4_isGreater_20 : decode cX4_isGreater 20 = .ok (.lcmp, 1) := by decide +kernel
theorem dX4_isGreater_21 : decode cX4_isGreater 21 = .ok (.ifCond .ne 19, 3) := by decide +kernel
theorem dX4_isGreater_24 : decode cX4_isGreater 24 = .ok (.lload_n 0, 1) := by decide +kernel
theorem dX4_isGreater_25 : decode cX4_isGreater 25 = .ok (.invokestatic 48, 3) := by decide +kernel
theorem dX4_isGreater_28 : decode cX4_isGreater 28 = .ok (.lload_n 2, 1) := by decide +kernel
theorem dX4_isGreater_29 : decode cX4_isGreater 29 = .ok (.invokestatic 48, 3) := by decide +kernel
theorem dX4_isGreater_32 : decode cX4_isGreater 32 = .ok (.lcmp, 1) := by decide +kernel
theorem dX4_isGreater_33 : decode cX4_isGreater 33 = .ok (.ifCond .le 7, 3) := by decide +kernel
theorem dX4_isGreater_36 : decode cX4_isGreater 36 = .ok (.iconst 1, 1) := by decide +kernel
theorem dX4_isGreater_37 : decode cX4_isGreater 37 = .ok (.goto 4, 3) := by decide +kernel
theorem dX4_isGreater_40 : decode cX4_isGreater 40 = .ok (.iconst 0, 1) := by decide +kernel
theorem dX4_isGreater_41 : decode cX4_isGreater 41 = .ok (.ireturn, 1) := by decide +kernel
theorem dX4_times_0 : decode cX4_times 0 = .ok (.lload_n 1, 1) := by decide +kernel
theorem dX4_times_1 : decode cX4_times 1 = .ok (.invokestatic 48, 3) := by decide +kernel
theorem dX4_times_4 : decode cX4_times 4 = .ok (.lload_n 3, 1) := by decide +kernel
theorem dX4_times_5 : decode cX4_times 5 = .ok (.invokestatic 48, 3) := by decide +kernel
theorem dX4_times_8 : decode cX4_times 8 = .ok (.lmul, 1) := by decide +kernel
theorem dX4_times_9 : decode cX4_times 9 = .ok (.lstore 5, 2) := by decide +kernel
theorem dX4_times_11 : decode cX4_times 11 = .ok (.lload_n 1, 1) := by decide +kernel
theorem dX4_times_12 : decode cX4_times 12 = .ok (.invokestatic 44, 3) := by decide +kernel
theorem dX4_times_15 : decode cX4_times 15 = .ok (.lload_n 3, 1) := by decide +kernel
theorem dX4_times_16 : decode cX4_times 16 = .ok (.invokestatic 44, 3) := by decide +kernel
theorem dX4_times_19 : decode cX4_times 19 = .ok (.lmul, 1) := by decide +kernel
theorem dX4_times_20 : decode cX4_times 20 = .ok (.aload_n 0, 1) := by decide +kernel
theorem dX4_times_21 : decode cX4_times 21 = .ok (.getfield 26, 3) := by decide +kernel
theorem dX4_times_24 : decode cX4_times 24 = .ok (.i2l, 1) := by decide +kernel
theorem dX4_times_25 : decode cX4_times 25 = .ok (.lload 5, 2) := by decide +kernel
theorem dX4_times_27 : decode cX4_times 27 = .ok (.lmul, 1) := by decide +kernel
theorem dX4_times_28 : decode cX4_times 28 = .ok (.lsub, 1) := by decide +kernel
theorem dX4_times_29 : decode cX4_times 29 = .ok (.lload_n 1, 1) := by decide +kernel
theorem dX4_times_30 : decode cX4_times 30 = .ok (.invokestatic 44, 3) := by decide +kernel
theorem dX4_times_33 : decode cX4_times 33 = .ok (.lload_n 3, 1) := by decide +kernel
theorem dX4_times_34 : decode cX4_times 34 = .ok (.invokestatic 48, 3) := by decide +kernel
theorem dX4_times_37 : decode cX4_times 37 = .ok (.lmul, 1) := by decide +kernel
theorem dX4_times_38 : decode cX4_times 38 = .ok (.lload_n 1, 1) := by decide +kernel
theorem dX4_times_39 : decode cX4_times 39 = .ok (.invokestatic 48, 3) := by decide +kernel
theorem dX4_times_42 : decode cX4_times 42 = .ok (.lload_n 3, 1) := by decide +kernel
theorem dX4_times_43 : decode cX4_times 43 = .ok (.invokestatic 44, 3) := by decide +kernel
theorem dX4_times_46 : decode cX4_times 46 = .ok (.lmul, 1) := by decide +kernel
theorem dX4_times_47 : decode cX4_times 47 = .ok (.ladd, 1) := by decide +kernel
theorem dX4_times_48 : decode cX4_times 48 = .ok (.aload_n 0, 1) := by decide +kernel
theorem dX4_times_49 : decode cX4_times 49 = .ok (.getfield 19, 3) := by decide +kernel
theorem dX4_times_52 : decode cX4_times 52 = .ok (.i2l, 1) := by decide +kernel
theorem dX4_times_53 : decode cX4_times 53 = .ok (.lload 5, 2) := by decide +kernel
theorem dX4_times_55 : decode cX4_times 55 = .ok (.lmul, 1) := by decide +kernel
theorem dX4_times_56 : decode cX4_times 56 = .ok (.ladd, 1) := by decide +kernel
theorem dX4_times_57 : decode cX4_times 57 = .ok (.invokestatic 32, 3) := by decide +kernel
theorem dX4_times_60 : decode cX4_times 60 = .ok (.lreturn, 1) := by decide +kernel
theorem dX4_sizeOf_0 : decode cX4_sizeOf 0 = .ok (.lload_n 1, 1) := by decide +kernel
theorem dX4_sizeOf_1 : decode cX4_sizeOf 1 = .ok (.invokestatic 44, 3) := by decide +kernel
theorem dX4_sizeOf_4 : decode cX4_sizeOf 4 = .ok (.lstore_n 3, 1) := by decide +kernel
theorem dX4_sizeOf_5 : decode cX4_sizeOf 5 = .ok (.lload_n 1, 1) := by decide +kernel
theorem dX4_sizeOf_6 : decode cX4_sizeOf 6 = .ok (.invokestatic 48, 3) := by decide +kernel
theorem dX4_sizeOf_9 : decode cX4_sizeOf 9 = .ok (.lstore 5, 2) := by decide +kernel
theorem dX4_sizeOf_11 : decode cX4_sizeOf 11 = .ok (.lload_n 3, 1) := by decide +kernel
theorem dX4_sizeOf_12 : decode cX4_sizeOf 12 = .ok (.lload_n 3, 1) := by decide +kernel
theorem dX4_sizeOf_13 : decode cX4_sizeOf 13 = .ok (.lmul, 1) := by decide +kernel
theorem dX4_sizeOf_14 : decode cX4_sizeOf 14 = .ok (.aload_n 0, 1) := by decide +kernel
theorem dX4_sizeOf_15 : decode cX4_sizeOf 15 = .ok (.getfield 19, 3) := by decide +kernel
theorem dX4_sizeOf_18 : decode cX4_sizeOf 18 = .ok (.i2l, 1) := by decide +kernel
theorem dX4_sizeOf_19 : decode cX4_sizeOf 19 = .ok (.lload_n 3, 1) := by decide +kernel
theorem dX4_sizeOf_20 : decode cX4_sizeOf 20 = .ok (.lmul, 1) := by decide +kernel
theorem dX4_sizeOf_21 : decode cX4_sizeOf 21 = .ok (.lload 5, 2) := by decide +kernel
theorem dX4_sizeOf_23 : decode cX4_sizeOf 23 = .ok (.lmul, 1) := by decide +kernel
theorem dX4_sizeOf_24 : decode cX4_sizeOf 24 = .ok (.ladd, 1) := by decide +kernel
theorem dX4_sizeOf_25 : decode cX4_sizeOf 25 = .ok (.aload_n 0, 1) := by decide +kernel
theorem dX4_sizeOf_26 : decode cX4_sizeOf 26 = .ok (.getfield 26, 3) := by decide +kernel
theorem dX4_sizeOf_29 : decode cX4_sizeOf 29 = .ok (.i2l, 1) := by decide +kernel
theorem dX4_sizeOf_30 : decode cX4_sizeOf 30 = .ok (.lload 5, 2) := by decide +kernel
theorem dX4_sizeOf_32 : decode cX4_sizeOf 32 = .ok (.lmul, 1) := by decide +kernel
theorem dX4_sizeOf_33 : decode cX4_sizeOf 33 = .ok (.lload 5, 2) := by decide +kernel
theorem dX4_sizeOf_35 : decode cX4_sizeOf 35 = .ok (.lmul, 1) := by decide +kernel
theorem dX4_sizeOf_36 : decode cX4_sizeOf 36 = .ok (.ladd, 1) := by decide +kernel
theorem dX4_sizeOf_37 : decode cX4_sizeOf 37 = .ok (.lreturn, 1) := by decide +kernel
theorem dX4_mirror_0 : decode cX4_mirror 0 = .ok (.lload_n 1, 1) := by decide +kernel
theorem dX4_mirror_1 : decode cX4_mirror 1 = .ok (.invokestatic 44, 3) := by decide +kernel
theorem dX4_mirror_4 : decode cX4_mirror 4 = .ok (.aload_n 0, 1) := by decide +kernel
theorem dX4_mirror_5 : decode cX4_mirror 5 = .ok (.getfield 19, 3) := by decide +kernel
theorem dX4_mirror_8 : decode cX4_mirror 8 = .ok (.i2l, 1) := by decide +kernel
theorem dX4_mirror_9 : decode cX4_mirror 9 = .ok (.lload_n 1, 1) := by decide +kernel
theorem dX4_mirror_10 : decode cX4_mirror 10 = .ok (.invokestatic 48, 3) := by decide +kernel
theorem dX4_mirror_13 : decode cX4_mirror 13 = .ok (.lmul, 1) := by decide +kernel
theorem dX4_mirror_14 : decode cX4_mirror 14 = .ok (.ladd, 1) := by decide +kernel
theorem dX4_mirror_15 : decode cX4_mirror 15 = .ok (.lload_n 1, 1) := by decide +kernel
theorem dX4_mirror_16 : decode cX4_mirror 16 = .ok (.invokestatic 48, 3) := by decide +kernel
theorem dX4_mirror_19 : decode cX4_mirror 19 = .ok (.lneg, 1) := by decide +kernel
theorem dX4_mirror_20 : decode cX4_mirror 20 = .ok (.invokestatic 32, 3) := by decide +kernel
theorem dX4_mirror_23 : decode cX4_mirror 23 = .ok (.lreturn, 1) := by decide +kernel
theorem dX4_shaper_0 : decode cX4_shaper 0 = .ok (.ldc2_w 51, 3) := by decide +kernel
theorem dX4_shaper_3 : decode cX4_shaper 3 = .ok (.lstore_n 3, 1) := by decide +kernel
theorem dX4_shaper_4 : decode cX4_shaper 4 = .ok (.ldc2_w 51, 3) := by decide +kernel
theorem dX4_shaper_7 : decode cX4_shaper 7 = .ok (.lstore 5, 2) := by decide +kernel
theorem dX4_shaper_9 : decode cX4_shaper 9 = .ok (.lload_n 1, 1) := by decide +kernel
theorem dX4_shaper_10 : decode cX4_shaper 10 = .ok (.lstore 7, 2) := by decide +kernel
theorem dX4_shaper_12 : decode cX4_shaper 12 = .ok (.iconst 1, 1) := by decide +kernel
theorem dX4_shaper_13 : decode cX4_shaper 13 = .ok (.istore 9, 2) := by decide +kernel
theorem dX4_shaper_15 : decode cX4_shaper 15 = .ok (.iload 9, 2) := by decide +kernel
theorem dX4_shaper_17 : decode cX4_shaper 17 = .ok (.aload_n 0, 1) := by decide +kernel
theorem dX4_shaper_18 : decode cX4_shaper 18 = .ok (.getfield 29, 3) := by decide +kernel
theorem dX4_shaper_21 : decode cX4_shaper 21 = .ok (.if_icmp .ge 44, 3) := by decide +kernel
theorem dX4_shaper_24 : decode cX4_shaper 24 = .ok (.aload_n 0, 1) := by decide +kernel
theorem dX4_shaper_25 : decode cX4_shaper 25 = .ok (.lload_n 3, 1) := by decide +kernel
theorem dX4_shaper_26 : decode cX4_shaper 26 = .ok (.aload_n 0, 1) := by decide +kernel
theorem dX4_shaper_27 : decode cX4_shaper 27 = .ok (.getfield 38, 3) := by decide +kernel
theorem dX4_shaper_30 : decode cX4_shaper 30 = .ok (.invokevirtual 53, 3) := by decide +kernel
theorem dX4_shaper_33 : decode cX4_shaper 33 = .ok (.lstore_n 3, 1) := by decide +kernel
theorem dX4_shaper_34 : decode cX4_shaper 34 = .ok (.aload_n 0, 1) := by decide +kernel
theorem dX4_shaper_35 : decode cX4_shaper 35 = .ok (.lload_n 3, 1) := by decide +kernel
theorem dX4_shaper_36 : decode cX4_shaper 36 = .ok (.lload_n 1, 1) := by decide +kernel
theorem dX4_shaper_37 : decode cX4_shaper 37 = .ok (.invokevirtual 53, 3) := by decide +kernel
theorem dX4_shaper_40 : decode cX4_shaper 40 = .ok (.lstore 10, 2) := by decide +kernel
theorem dX4_shaper_42 : decode cX4_shaper 42 = .ok (.lload 10, 2) := by decide +kernel
theorem dX4_shaper_44 : decode cX4_shaper 44 = .ok (.lload 7, 2) := by decide +kernel
theorem dX4_shaper_46 : decode cX4_shaper 46 = .ok (.invokestatic 56, 3) := by decide +kernel
theorem dX4_shaper_49 : decode cX4_shaper 49 = .ok (.ifCond .eq 10, 3) := by decide +kernel
theorem dX4_shaper_52 : decode cX4_shaper 52 = .ok (.lload_n 3, 1) := by decide +kernel
theorem dX4_shaper_53 : decode cX4_shaper 53 = .ok (.lstore 5, 2) := by decide +kernel
theorem dX4_shaper_55 : decode cX4_shaper 55 = .ok (.lload 10, 2) := by decide +kernel
theorem dX4_shaper_57 : decode cX4_shaper 57 = .ok (.lstore 7, 2) := by decide +kernel
theorem dX4_shaper_59 : decode cX4_shaper 59 = .ok (.iinc 9 1, 3) := by decide +kernel
theorem dX4_shaper_62 : decode cX4_shaper 62 = .ok (.goto (-47), 3) := by decide +kernel
theorem dX4_shaper_65 : decode cX4_shaper 65 = .ok (.lload 5, 2) := by decide +kernel
theorem dX4_shaper_67 : decode cX4_shaper 67 = .ok (.lreturn, 1) := by decide +kernel
theorem dX4_shape_0 : decode cX4_shape 0 = .ok (.aload_n 0, 1) := by decide +kernel
theorem dX4_shape_1 : decode cX4_shape 1 = .ok (.aload_n 0, 1) := by decide +kernel
theorem dX4_shape_2 : decode cX4_shape 2 = .ok (.lload_n 1, 1) := by decide +kernel
theorem dX4_shape_3 : decode cX4_shape 3 = .ok (.invokevirtual 60, 3) := by decide +kernel
theorem dX4_shape_6 : decode cX4_shape 6 = .ok (.lload_n 1, 1) := by decide +kernel
theorem dX4_shape_7 : decode cX4_shape 7 = .ok (.invokevirtual 53, 3) := by decide +kernel
theorem dX4_shape_10 : decode cX4_shape 10 = .ok (.lreturn, 1) := by decide +kernel
theorem dX4_acrossA_0 : decode cX4_acrossA 0 = .ok (.lload_n 1, 1) := by decide +kernel
theorem dX4_acrossA_1 : decode cX4_acrossA 1 = .ok (.invokestatic 44, 3) := by decide +kernel
theorem dX4_acrossA_4 : decode cX4_acrossA 4 = .ok (.lload_n 3, 1) := by decide +kernel
theorem dX4_acrossA_5 : decode cX4_acrossA 5 = .ok (.invokestatic 44, 3) := by decide +kernel
theorem dX4_acrossA_8 : decode cX4_acrossA 8 = .ok (.aload_n 0, 1) := by decide +kernel
theorem dX4_acrossA_9 : decode cX4_acrossA 9 = .ok (.getfield 19, 3) := by decide +kernel
theorem dX4_acrossA_12 : decode cX4_acrossA 12 = .ok (.i2l, 1) := by decide +kernel
theorem dX4_acrossA_13 : decode cX4_acrossA 13 = .ok (.lload_n 3, 1) := by decide +kernel
theorem dX4_acrossA_14 : decode cX4_acrossA 14 = .ok (.invokestatic 48, 3) := by decide +kernel
theorem dX4_acrossA_17 : decode cX4_acrossA 17 = .ok (.lmul, 1) := by decide +kernel
theorem dX4_acrossA_18 : decode cX4_acrossA 18 = .ok (.ladd, 1) := by decide +kernel
theorem dX4_acrossA_19 : decode cX4_acrossA 19 = .ok (.lmul, 1) := by decide +kernel
theorem dX4_acrossA_20 : decode cX4_acrossA 20 = .ok (.aload_n 0, 1) := by decide +kernel
theorem dX4_acrossA_21 : decode cX4_acrossA 21 = .ok (.getfield 26, 3) := by decide +kernel
theorem dX4_acrossA_24 : decode cX4_acrossA 24 = .ok (.i2l, 1) := by decide +kernel
theorem dX4_acrossA_25 : decode cX4_acrossA 25 = .ok (.lload_n 1, 1) := by decide +kernel
theorem dX4_acrossA_26 : decode cX4_acrossA 26 = .ok (.invokestatic 48, 3) := by decide +kernel
theorem dX4_acrossA_29 : decode cX4_acrossA 29 = .ok (.lmul, 1) := by decide +kernel
theorem dX4_acrossA_30 : decode cX4_acrossA 30 = .ok (.lload_n 3, 1) := by decide +kernel
theorem dX4_acrossA_31 : decode cX4_acrossA 31 = .ok (.invokestatic 48, 3) := by decide +kernel
theorem dX4_acrossA_34 : decode cX4_acrossA 34 = .ok (.lmul, 1) := by decide +kernel
theorem dX4_acrossA_35 : decode cX4_acrossA 35 = .ok (.ladd, 1) := by decide +kernel
theorem dX4_acrossA_36 : decode cX4_acrossA 36 = .ok (.lreturn, 1) := by decide +kernel
theorem dX4_acrossB_0 : decode cX4_acrossB 0 = .ok (.lload_n 0, 1) := by decide +kernel
theorem dX4_acrossB_1 : decode cX4_acrossB 1 = .ok (.invokestatic 48, 3) := by decide +kernel
theorem dX4_acrossB_4 : decode cX4_acrossB 4 = .ok (.lload_n 2, 1) := by decide +kernel
theorem dX4_acrossB_5 : decode cX4_acrossB 5 = .ok (.invokestatic 44, 3) := by decide +kernel
theorem dX4_acrossB_8 : decode cX4_acrossB 8 = .ok (.lmul, 1) := by decide +kernel
theorem dX4_acrossB_9 : decode cX4_acrossB 9 = .ok (.lload_n 0, 1) := by decide +kernel
theorem dX4_acrossB_10 : decode cX4_acrossB 10 = .ok (.invokestatic 44, 3) := by decide +kernel
theorem dX4_acrossB_13 : decode cX4_acrossB 13 = .ok (.lload_n 2, 1) := by decide +kernel
theorem dX4_acrossB_14 : decode cX4_acrossB 14 = .ok (.invokestatic 48, 3) := by decide +kernel
theorem dX4_acrossB_17 : decode cX4_acrossB 17 = .ok (.lmul, 1) := by decide +kernel
theorem dX4_acrossB_18 : decode cX4_acrossB 18 = .ok (.lsub, 1) := by decide +kernel
theorem dX4_acrossB_19 : decode cX4_acrossB 19 = .ok (.lreturn, 1) := by decide +kernel
theorem dX4_quotient_0 : decode cX4_quotient 0 = .ok (.aload_n 0, 1) := by decide +kernel
theorem dX4_quotient_1 : decode cX4_quotient 1 = .ok (.lload_n 3, 1) := by decide +kernel
theorem dX4_quotient_2 : decode cX4_quotient 2 = .ok (.invokevirtual 63, 3) := by decide +kernel
theorem dX4_quotient_5 : decode cX4_quotient 5 = .ok (.lstore 5, 2) := by decide +kernel
theorem dX4_quotient_7 : decode cX4_quotient 7 = .ok (.lload 5, 2) := by decide +kernel
theorem dX4_quotient_9 : decode cX4_quotient 9 = .ok (.lconst 0, 1) := by decide +kernel
theorem dX4_quotient_10 : decode cX4_quotient 10 = .ok (.lcmp, 1) := by decide +kernel
theorem dX4_quotient_11 : decode cX4_quotient 11 = .ok (.ifCond .ne 5, 3) := by decide +kernel
theorem dX4_quotient_14 : decode cX4_quotient 14 = .ok (.lconst 0, 1) := by decide +kernel
theorem dX4_quotient_15 : decode cX4_quotient 15 = .ok (.lreturn, 1) := by decide +kernel
theorem dX4_quotient_16 : decode cX4_quotient 16 = .ok (.aload_n 0, 1) := by decide +kernel
theorem dX4_quotient_17 : decode cX4_quotient 17 = .ok (.lload_n 1, 1) := by decide +kernel
theorem dX4_quotient_18 : decode cX4_quotient 18 = .ok (.lload_n 3, 1) := by decide +kernel
theorem dX4_quotient_19 : decode cX4_quotient 19 = .ok (.invokevirtual 66, 3) := by decide +kernel
theorem dX4_quotient_22 : decode cX4_quotient 22 = .ok (.lload 5, 2) := by decide +kernel
theorem dX4_quotient_24 : decode cX4_quotient 24 = .ok (.invokestatic 69, 3) := by decide +kernel
theorem dX4_quotient_27 : decode cX4_quotient 27 = .ok (.lstore 7, 2) := by decide +kernel
theorem dX4_quotient_29 : decode cX4_quotient 29 = .ok (.lload_n 1, 1) := by decide +kernel
theorem dX4_quotient_30 : decode cX4_quotient 30 = .ok (.lload_n 3, 1) := by decide +kernel
theorem dX4_quotient_31 : decode cX4_quotient 31 = .ok (.invokestatic 74, 3) := by decide +kernel
theorem dX4_quotient_34 : decode cX4_quotient 34 = .ok (.lload 5, 2) := by decide +kernel
theorem dX4_quotient_36 : decode cX4_quotient 36 = .ok (.invokestatic 69, 3) := by decide +kernel
theorem dX4_quotient_39 : decode cX4_quotient 39 = .ok (.lstore 9, 2) := by decide +kernel
theorem dX4_quotient_41 : decode cX4_quotient 41 = .ok (.lload 7, 2) := by decide +kernel
theorem dX4_quotient_43 : decode cX4_quotient 43 = .ok (.lload 9, 2) := by decide +kernel
theorem dX4_quotient_45 : decode cX4_quotient 45 = .ok (.invokestatic 32, 3) := by decide +kernel
theorem dX4_quotient_48 : decode cX4_quotient 48 = .ok (.lstore 11, 2) := by decide +kernel
theorem dX4_quotient_50 : decode cX4_quotient 50 = .ok (.aload_n 0, 1) := by decide +kernel
theorem dX4_quotient_51 : decode cX4_quotient 51 = .ok (.lload_n 1, 1) := by decide +kernel
theorem dX4_quotient_52 : decode cX4_quotient 52 = .ok (.aload_n 0, 1) := by decide +kernel
theorem dX4_quotient_53 : decode cX4_quotient 53 = .ok (.lload 11, 2) := by decide +kernel
theorem dX4_quotient_55 : decode cX4_quotient 55 = .ok (.lload_n 3, 1) := by decide +kernel
theorem dX4_quotient_56 : decode cX4_quotient 56 = .ok (.invokevirtual 53, 3) := by decide +kernel
theorem dX4_quotient_59 : decode cX4_quotient 59 = .ok (.invokestatic 77, 3) := by decide +kernel
theorem dX4_quotient_62 : decode cX4_quotient 62 = .ok (.invokevirtual 63, 3) := by decide +kernel
theorem dX4_quotient_65 : decode cX4_quotient 65 = .ok (.lstore 13, 2) := by decide +kernel
theorem dX4_quotient_67 : decode cX4_quotient 67 = .ok (.iconst 1, 1) := by decide +kernel
theorem dX4_quotient_68 : decode cX4_quotient 68 = .ok (.istore 15, 2) := by decide +kernel
theorem dX4_quotient_70 : decode cX4_quotient 70 = .ok (.iload 15, 2) := by decide +kernel
theorem dX4_quotient_72 : decode cX4_quotient 72 = .ok (.iconst 4, 1) := by decide +kernel
theorem dX4_quotient_73 : decode cX4_quotient 73 = .ok (.if_icmp .ge 63, 3) := by decide +kernel
theorem dX4_quotient_76 : decode cX4_quotient 76 = .ok (.lload 7, 2) := by decide +kernel
theorem dX4_quotient_78 : decode cX4_quotient 78 = .ok (.iload 15, 2) := by decide +kernel
theorem dX4_quotient_80 : decode cX4_quotient 80 = .ok (.iconst 2, 1) := by decide +kernel
theorem dX4_quotient_81 : decode cX4_quotient 81 = .ok (.idiv, 1) := by decide +kernel
theorem dX4_quotient_82 : decode cX4_quotient 82 = .ok (.i2l, 1) := by decide +kernel
theorem dX4_quotient_83 : decode cX4_quotient 83 = .ok (.ladd, 1) := by decide +kernel
theorem dX4_quotient_84 : decode cX4_quotient 84 = .ok (.lload 9, 2) := by decide +kernel
theorem dX4_quotient_86 : decode cX4_quotient 86 = .ok (.iload 15, 2) := by decide +kernel
theorem dX4_quotient_88 : decode cX4_quotient 88 = .ok (.iconst 2, 1) := by decide +kernel
theorem dX4_quotient_89 : decode cX4_quotient 89 = .ok (.irem, 1) := by decide +kernel
theorem dX4_quotient_90 : decode cX4_quotient 90 = .ok (.i2l, 1) := by decide +kernel
theorem dX4_quotient_91 : decode cX4_quotient 91 = .ok (.ladd, 1) := by decide +kernel
theorem dX4_quotient_92 : decode cX4_quotient 92 = .ok (.invokestatic 32, 3) := by decide +kernel
theorem dX4_quotient_95 : decode cX4_quotient 95 = .ok (.lstore 16, 2) := by decide +kernel
theorem dX4_quotient_97 : decode cX4_quotient 97 = .ok (.aload_n 0, 1) := by decide +kernel
theorem dX4_quotient_98 : decode cX4_quotient 98 = .ok (.lload_n 1, 1) := by decide +kernel
theorem dX4_quotient_99 : decode cX4_quotient 99 = .ok (.aload_n 0, 1) := by decide +kernel
theorem dX4_quotient_100 : decode cX4_quotient 100 = .ok (.lload 16, 2) := by decide +kernel
theorem dX4_quotient_102 : decode cX4_quotient 102 = .ok (.lload_n 3, 1) := by decide +kernel
theorem dX4_quotient_103 : decode cX4_quotient 103 = .ok (.invokevirtual 53, 3) := by decide +kernel
theorem dX4_quotient_106 : decode cX4_quotient 106 = .ok (.invokestatic 77, 3) := by decide +kernel
theorem dX4_quotient_109 : decode cX4_quotient 109 = .ok (.invokevirtual 63, 3) := by decide +kernel
theorem dX4_quotient_112 : decode cX4_quotient 112 = .ok (.lstore 18, 2) := by decide +kernel
theorem dX4_quotient_114 : decode cX4_quotient 114 = .ok (.lload 18, 2) := by decide +kernel
theorem dX4_quotient_116 : decode cX4_quotient 116 = .ok (.lload 13, 2) := by decide +kernel
theorem dX4_quotient_118 : decode cX4_quotient 118 = .ok (.lcmp, 1) := by decide +kernel
theorem dX4_quotient_119 : decode cX4_quotient 119 = .ok (.ifCond .ge 11, 3) := by decide +kernel
theorem dX4_quotient_122 : decode cX4_quotient 122 = .ok (.lload 16, 2) := by decide +kernel
theorem dX4_quotient_124 : decode cX4_quotient 124 = .ok (.lstore 11, 2) := by decide +kernel
theorem dX4_quotient_126 : decode cX4_quotient 126 = .ok (.lload 18, 2) := by decide +kernel
theorem dX4_quotient_128 : decode cX4_quotient 128 = .ok (.lstore 13, 2) := by decide +kernel
theorem dX4_quotient_130 : decode cX4_quotient 130 = .ok (.iinc 15 1, 3) := by decide +kernel
theorem dX4_quotient_133 : decode cX4_quotient 133 = .ok (.goto (-63), 3) := by decide +kernel
theorem dX4_quotient_136 : decode cX4_quotient 136 = .ok (.lload 11, 2) := by decide +kernel
theorem dX4_quotient_138 : decode cX4_quotient 138 = .ok (.lreturn, 1) := by decide +kernel
theorem dX4_rest_0 : decode cX4_rest 0 = .ok (.lload_n 1, 1) := by decide +kernel
theorem dX4_rest_1 : decode cX4_rest 1 = .ok (.aload_n 0, 1) := by decide +kernel
theorem dX4_rest_2 : decode cX4_rest 2 = .ok (.aload_n 0, 1) := by decide +kernel
theorem dX4_rest_3 : decode cX4_rest 3 = .ok (.lload_n 1, 1) := by decide +kernel
theorem dX4_rest_4 : decode cX4_rest 4 = .ok (.lload_n 3, 1) := by decide +kernel
theorem dX4_rest_5 : decode cX4_rest 5 = .ok (.invokevirtual 80, 3) := by decide +kernel
theorem dX4_rest_8 : decode cX4_rest 8 = .ok (.lload_n 3, 1) := by decide +kernel
theorem dX4_rest_9 : decode cX4_rest 9 = .ok (.invokevirtual 53, 3) := by decide +kernel
theorem dX4_rest_12 : decode cX4_rest 12 = .ok (.invokestatic 77, 3) := by decide +kernel
theorem dX4_rest_15 : decode cX4_rest 15 = .ok (.lreturn, 1) := by decide +kernel
theorem dX4_isPart_0 : decode cX4_isPart 0 = .ok (.aload_n 0, 1) := by decide +kernel
theorem dX4_isPart_1 : decode cX4_isPart 1 = .ok (.lload_n 1, 1) := by decide +kernel
theorem dX4_isPart_2 : decode cX4_isPart 2 = .ok (.invokevirtual 63, 3) := by decide +kernel
theorem dX4_isPart_5 : decode cX4_isPart 5 = .ok (.lstore 5, 2) := by decide +kernel
theorem dX4_isPart_7 : decode cX4_isPart 7 = .ok (.lload 5, 2) := by decide +kernel
theorem dX4_isPart_9 : decode cX4_isPart 9 = .ok (.aload_n 0, 1) := by decide +kernel
theorem dX4_isPart_10 : decode cX4_isPart 10 = .ok (.lload_n 3, 1) := by decide +kernel
theorem dX4_isPart_11 : decode cX4_isPart 11 = .ok (.lload_n 1, 1) := by decide +kernel
theorem dX4_isPart_12 : decode cX4_isPart 12 = .ok (.invokevirtual 66, 3) := by decide +kernel
theorem dX4_isPart_15 : decode cX4_isPart 15 = .ok (.invokestatic 83, 3) := by decide +kernel
theorem dX4_isPart_18 : decode cX4_isPart 18 = .ok (.ifCond .eq 20, 3) := by decide +kernel
theorem dX4_isPart_21 : decode cX4_isPart 21 = .ok (.lload 5, 2) := by decide +kernel
theorem dX4_isPart_23 : decode cX4_isPart 23 = .ok (.lload_n 3, 1) := by decide +kernel
theorem dX4_isPart_24 : decode cX4_isPart 24 = .ok (.lload_n 1, 1) := by decide +kernel
theorem dX4_isPart_25 : decode cX4_isPart 25 = .ok (.invokestatic 74, 3) := by decide +kernel
theorem dX4_isPart_28 : decode cX4_isPart 28 = .ok (.invokestatic 83, 3) := by decide +kernel
theorem dX4_isPart_31 : decode cX4_isPart 31 = .ok (.ifCond .eq 7, 3) := by decide +kernel
theorem dX4_isPart_34 : decode cX4_isPart 34 = .ok (.iconst 1, 1) := by decide +kernel
theorem dX4_isPart_35 : decode cX4_isPart 35 = .ok (.goto 4, 3) := by decide +kernel
theorem dX4_isPart_38 : decode cX4_isPart 38 = .ok (.iconst 0, 1) := by decide +kernel
theorem dX4_isPart_39 : decode cX4_isPart 39 = .ok (.ireturn, 1) := by decide +kernel
theorem dX4_dividedBy_0 : decode cX4_dividedBy 0 = .ok (.aload_n 0, 1) := by decide +kernel
theorem dX4_dividedBy_1 : decode cX4_dividedBy 1 = .ok (.lload_n 3, 1) := by decide +kernel
theorem dX4_dividedBy_2 : decode cX4_dividedBy 2 = .ok (.invokevirtual 63, 3) := by decide +kernel
theorem dX4_dividedBy_5 : decode cX4_dividedBy 5 = .ok (.lstore 5, 2) := by decide +kernel
theorem dX4_dividedBy_7 : decode cX4_dividedBy 7 = .ok (.aload_n 0, 1) := by decide +kernel
theorem dX4_dividedBy_8 : decode cX4_dividedBy 8 = .ok (.lload_n 1, 1) := by decide +kernel
theorem dX4_dividedBy_9 : decode cX4_dividedBy 9 = .ok (.lload_n 3, 1) := by decide +kernel
theorem dX4_dividedBy_10 : decode cX4_dividedBy 10 = .ok (.invokevirtual 66, 3) := by decide +kernel
theorem dX4_dividedBy_13 : decode cX4_dividedBy 13 = .ok (.lload 5, 2) := by decide +kernel
theorem dX4_dividedBy_15 : decode cX4_dividedBy 15 = .ok (.invokestatic 86, 3) := by decide +kernel
theorem dX4_dividedBy_18 : decode cX4_dividedBy 18 = .ok (.lload_n 1, 1) := by decide +kernel
theorem dX4_dividedBy_19 : decode cX4_dividedBy 19 = .ok (.lload_n 3, 1) := by decide +kernel
theorem dX4_dividedBy_20 : decode cX4_dividedBy 20 = .ok (.invokestatic 74, 3) := by decide +kernel
theorem dX4_dividedBy_23 : decode cX4_dividedBy 23 = .ok (.lload 5, 2) := by decide +kernel
theorem dX4_dividedBy_25 : decode cX4_dividedBy 25 = .ok (.invokestatic 86, 3) := by decide +kernel
theorem dX4_dividedBy_28 : decode cX4_dividedBy 28 = .ok (.invokestatic 32, 3) := by decide +kernel
theorem dX4_dividedBy_31 : decode cX4_dividedBy 31 = .ok (.lreturn, 1) := by decide +kernel
theorem dX4_common_0 : decode cX4_common 0 = .ok (.lload_n 1, 1) := by decide +kernel
theorem dX4_common_1 : decode cX4_common 1 = .ok (.lstore 5, 2) := by decide +kernel
theorem dX4_common_3 : decode cX4_common 3 = .ok (.lload_n 3, 1) := by decide +kernel
theorem dX4_common_4 : decode cX4_common 4 = .ok (.lstore 7, 2) := by decide +kernel
theorem dX4_common_6 : decode cX4_common 6 = .ok (.iconst 0, 1) := by decide +kernel
theorem dX4_common_7 : decode cX4_common 7 = .ok (.istore 9, 2) := by decide +kernel
theorem dX4_common_9 : decode cX4_common 9 = .ok (.iload 9, 2) := by decide +kernel
theorem dX4_common_11 : decode cX4_common 11 = .ok (.ldc 89, 2) := by decide +kernel
theorem dX4_common_13 : decode cX4_common 13 = .ok (.if_icmp .ge 34, 3) := by decide +kernel
theorem dX4_common_16 : decode cX4_common 16 = .ok (.lload 7, 2) := by decide +kernel
theorem dX4_common_18 : decode cX4_common 18 = .ok (.lconst 0, 1) := by decide +kernel
theorem dX4_common_19 : decode cX4_common 19 = .ok (.lcmp, 1) := by decide +kernel
theorem dX4_common_20 : decode cX4_common 20 = .ok (.ifCond .eq 27, 3) := by decide +kernel
theorem dX4_common_23 : decode cX4_common 23 = .ok (.aload_n 0, 1) := by decide +kernel
theorem dX4_common_24 : decode cX4_common 24 = .ok (.lload 5, 2) := by decide +kernel
theorem dX4_common_26 : decode cX4_common 26 = .ok (.lload 7, 2) := by decide +kernel
theorem dX4_common_28 : decode cX4_common 28 = .ok (.invokevirtual 90, 3) := by decide +kernel
theorem dX4_common_31 : decode cX4_common 31 = .ok (.lstore 10, 2) := by decide +kernel
theorem dX4_common_33 : decode cX4_common 33 = .ok (.lload 7, 2) := by decide +kernel
theorem dX4_common_35 : decode cX4_common 35 = .ok (.lstore 5, 2) := by decide +kernel
theorem dX4_common_37 : decode cX4_common 37 = .ok (.lload 10, 2) := by decide +kernel
theorem dX4_common_39 : decode cX4_common 39 = .ok (.lstore 7, 2) := by decide +kernel
theorem dX4_common_41 : decode cX4_common 41 = .ok (.iinc 9 1, 3) := by decide +kernel
theorem dX4_common_44 : decode cX4_common 44 = .ok (.goto (-35), 3) := by decide +kernel
theorem dX4_common_47 : decode cX4_common 47 = .ok (.aload_n 0, 1) := by decide +kernel
theorem dX4_common_48 : decode cX4_common 48 = .ok (.lload 5, 2) := by decide +kernel
theorem dX4_common_50 : decode cX4_common 50 = .ok (.invokevirtual 93, 3) := by decide +kernel
theorem dX4_common_53 : decode cX4_common 53 = .ok (.lreturn, 1) := by decide +kernel
theorem dX4_primeAbove_0 : decode cX4_primeAbove 0 = .ok (.iconst 4, 1) := by decide +kernel
theorem dX4_primeAbove_1 : decode cX4_primeAbove 1 = .ok (.aload_n 0, 1) := by decide +kernel
theorem dX4_primeAbove_2 : decode cX4_primeAbove 2 = .ok (.getfield 26, 3) := by decide +kernel
theorem dX4_primeAbove_5 : decode cX4_primeAbove 5 = .ok (.imul, 1) := by decide +kernel
theorem dX4_primeAbove_6 : decode cX4_primeAbove 6 = .ok (.aload_n 0, 1) := by decide +kernel
theorem dX4_primeAbove_7 : decode cX4_primeAbove 7 = .ok (.getfield 19, 3) := by decide +kernel
theorem dX4_primeAbove_10 : decode cX4_primeAbove 10 = .ok (.aload_n 0, 1) := by decide +kernel
theorem dX4_primeAbove_11 : decode cX4_primeAbove 11 = .ok (.getfield 19, 3) := by decide +kernel
theorem dX4_primeAbove_14 : decode cX4_primeAbove 14 = .ok (.imul, 1) := by decide +kernel
theorem dX4_primeAbove_15 : decode cX4_primeAbove 15 = .ok (.isub, 1) := by decide +kernel
theorem dX4_primeAbove_16 : decode cX4_primeAbove 16 = .ok (.i2l, 1) := by decide +kernel
theorem dX4_primeAbove_17 : decode cX4_primeAbove 17 = .ok (.lstore_n 3, 1) := by decide +kernel
theorem dX4_primeAbove_18 : decode cX4_primeAbove 18 = .ok (.lconst 0, 1) := by decide +kernel
theorem dX4_primeAbove_19 : decode cX4_primeAbove 19 = .ok (.lstore 5, 2) := by decide +kernel
theorem dX4_primeAbove_21 : decode cX4_primeAbove 21 = .ok (.lload 5, 2) := by decide +kernel
theorem dX4_primeAbove_23 : decode cX4_primeAbove 23 = .ok (.ldc2_w 96, 3) := by decide +kernel
theorem dX4_primeAbove_26 : decode cX4_primeAbove 26 = .ok (.lcmp, 1) := by decide +kernel
theorem dX4_primeAbove_27 : decode cX4_primeAbove 27 = .ok (.ifCond .ge 102, 3) := by decide +kernel
theorem dX4_primeAbove_30 : decode cX4_primeAbove 30 = .ok (.lload_n 3, 1) := by decide +kernel
theorem dX4_primeAbove_31 : decode cX4_primeAbove 31 = .ok (.lload 5, 2) := by decide +kernel
theorem dX4_primeAbove_33 : decode cX4_primeAbove 33 = .ok (.lmul, 1) := by decide +kernel
theorem dX4_primeAbove_34 : decode cX4_primeAbove 34 = .ok (.lload 5, 2) := by decide +kernel
theorem dX4_primeAbove_36 : decode cX4_primeAbove 36 = .ok (.lmul, 1) := by decide +kernel
theorem dX4_primeAbove_37 : decode cX4_primeAbove 37 = .ok (.ldc2_w 98, 3) := by decide +kernel
theorem dX4_primeAbove_40 : decode cX4_primeAbove 40 = .ok (.lload_n 1, 1) := by decide +kernel
theorem dX4_primeAbove_41 : decode cX4_primeAbove 41 = .ok (.lmul, 1) := by decide +kernel
theorem dX4_primeAbove_42 : decode cX4_primeAbove 42 = .ok (.lcmp, 1) := by decide +kernel
theorem dX4_primeAbove_43 : decode cX4_primeAbove 43 = .ok (.ifCond .gt 86, 3) := by decide +kernel
theorem dX4_primeAbove_46 : decode cX4_primeAbove 46 = .ok (.ldc2_w 98, 3) := by decide +kernel
theorem dX4_primeAbove_49 : decode cX4_primeAbove 49 = .ok (.lload_n 1, 1) := by decide +kernel
theorem dX4_primeAbove_50 : decode cX4_primeAbove 50 = .ok (.lmul, 1) := by decide +kernel
theorem dX4_primeAbove_51 : decode cX4_primeAbove 51 = .ok (.lload_n 3, 1) := by decide +kernel
theorem dX4_primeAbove_52 : decode cX4_primeAbove 52 = .ok (.lload 5, 2) := by decide +kernel
theorem dX4_primeAbove_54 : decode cX4_primeAbove 54 = .ok (.lmul, 1) := by decide +kernel
theorem dX4_primeAbove_55 : decode cX4_primeAbove 55 = .ok (.lload 5, 2) := by decide +kernel
theorem dX4_primeAbove_57 : decode cX4_primeAbove 57 = .ok (.lmul, 1) := by decide +kernel
theorem dX4_primeAbove_58 : decode cX4_primeAbove 58 = .ok (.lsub, 1) := by decide +kernel
theorem dX4_primeAbove_59 : decode cX4_primeAbove 59 = .ok (.lstore 7, 2) := by decide +kernel
theorem dX4_primeAbove_61 : decode cX4_primeAbove 61 = .ok (.lload 7, 2) := by decide +kernel
theorem dX4_primeAbove_63 : decode cX4_primeAbove 63 = .ok (.invokestatic 100, 3) := by decide +kernel
theorem dX4_primeAbove_66 : decode cX4_primeAbove 66 = .ok (.lstore 9, 2) := by decide +kernel
theorem dX4_primeAbove_68 : decode cX4_primeAbove 68 = .ok (.lload 9, 2) := by decide +kernel
theorem dX4_primeAbove_70 : decode cX4_primeAbove 70 = .ok (.lload 9, 2) := by decide +kernel
theorem dX4_primeAbove_72 : decode cX4_primeAbove 72 = .ok (.lmul, 1) := by decide +kernel
theorem dX4_primeAbove_73 : decode cX4_primeAbove 73 = .ok (.lload 7, 2) := by decide +kernel
theorem dX4_primeAbove_75 : decode cX4_primeAbove 75 = .ok (.lcmp, 1) := by decide +kernel
theorem dX4_primeAbove_76 : decode cX4_primeAbove 76 = .ok (.ifCond .ne 44, 3) := by decide +kernel
theorem dX4_primeAbove_79 : decode cX4_primeAbove 79 = .ok (.lload 9, 2) := by decide +kernel
theorem dX4_primeAbove_81 : decode cX4_primeAbove 81 = .ok (.aload_n 0, 1) := by decide +kernel
theorem dX4_primeAbove_82 : decode cX4_primeAbove 82 = .ok (.getfield 19, 3) := by decide +kernel
theorem dX4_primeAbove_85 : decode cX4_primeAbove 85 = .ok (.i2l, 1) := by decide +kernel
theorem dX4_primeAbove_86 : decode cX4_primeAbove 86 = .ok (.lload 5, 2) := by decide +kernel
theorem dX4_primeAbove_88 : decode cX4_primeAbove 88 = .ok (.lmul, 1) := by decide +kernel
theorem dX4_primeAbove_89 : decode cX4_primeAbove 89 = .ok (.lsub, 1) := by decide +kernel
theorem dX4_primeAbove_90 : decode cX4_primeAbove 90 = .ok (.ldc2_w 103, 3) := by decide +kernel
theorem dX4_primeAbove_93 : decode cX4_primeAbove 93 = .ok (.lrem, 1) := by decide +kernel
theorem dX4_primeAbove_94 : decode cX4_primeAbove 94 = .ok (.lconst 0, 1) := by decide +kernel
theorem dX4_primeAbove_95 : decode cX4_primeAbove 95 = .ok (.lcmp, 1) := by decide +kernel
theorem dX4_primeAbove_96 : decode cX4_primeAbove 96 = .ok (.ifCond .ne 24, 3) := by decide +kernel
theorem dX4_primeAbove_99 : decode cX4_primeAbove 99 = .ok (.lload 9, 2) := by decide +kernel
theorem dX4_primeAbove_101 : decode cX4_primeAbove 101 = .ok (.aload_n 0, 1) := by decide +kernel
theorem dX4_primeAbove_102 : decode cX4_primeAbove 102 = .ok (.getfield 19, 3) := by decide +kernel
theorem dX4_primeAbove_105 : decode cX4_primeAbove 105 = .ok (.i2l, 1) := by decide +kernel
theorem dX4_primeAbove_106 : decode cX4_primeAbove 106 = .ok (.lload 5, 2) := by decide +kernel
theorem dX4_primeAbove_108 : decode cX4_primeAbove 108 = .ok (.lmul, 1) := by decide +kernel
theorem dX4_primeAbove_109 : decode cX4_primeAbove 109 = .ok (.lsub, 1) := by decide +kernel
theorem dX4_primeAbove_110 : decode cX4_primeAbove 110 = .ok (.ldc2_w 103, 3) := by decide +kernel
theorem dX4_primeAbove_113 : decode cX4_primeAbove 113 = .ok (.ldiv, 1) := by decide +kernel
theorem dX4_primeAbove_114 : decode cX4_primeAbove 114 = .ok (.lload 5, 2) := by decide +kernel
theorem dX4_primeAbove_116 : decode cX4_primeAbove 116 = .ok (.invokestatic 32, 3) := by decide +kernel
theorem dX4_primeAbove_119 : decode cX4_primeAbove 119 = .ok (.lreturn, 1) := by decide +kernel
theorem dX4_primeAbove_120 : decode cX4_primeAbove 120 = .ok (.lload 5, 2) := by decide +kernel
theorem dX4_primeAbove_122 : decode cX4_primeAbove 122 = .ok (.lconst 1, 1) := by decide +kernel
theorem dX4_primeAbove_123 : decode cX4_primeAbove 123 = .ok (.ladd, 1) := by decide +kernel
theorem dX4_primeAbove_124 : decode cX4_primeAbove 124 = .ok (.lstore 5, 2) := by decide +kernel
theorem dX4_primeAbove_126 : decode cX4_primeAbove 126 = .ok (.goto (-105), 3) := by decide +kernel
theorem dX4_primeAbove_129 : decode cX4_primeAbove 129 = .ok (.lload_n 1, 1) := by decide +kernel
theorem dX4_primeAbove_130 : decode cX4_primeAbove 130 = .ok (.lconst 0, 1) := by decide +kernel
theorem dX4_primeAbove_131 : decode cX4_primeAbove 131 = .ok (.invokestatic 32, 3) := by decide +kernel
theorem dX4_primeAbove_134 : decode cX4_primeAbove 134 = .ok (.lreturn, 1) := by decide +kernel
theorem dX4_inCircle_0 : decode cX4_inCircle 0 = .ok (.iconst 4, 1) := by decide +kernel
theorem dX4_inCircle_1 : decode cX4_inCircle 1 = .ok (.aload_n 0, 1) := by decide +kernel
theorem dX4_inCircle_2 : decode cX4_inCircle 2 = .ok (.getfield 26, 3) := by decide +kernel
theorem dX4_inCircle_5 : decode cX4_inCircle 5 = .ok (.imul, 1) := by decide +kernel
theorem dX4_inCircle_6 : decode cX4_inCircle 6 = .ok (.aload_n 0, 1) := by decide +kernel
theorem dX4_inCircle_7 : decode cX4_inCircle 7 = .ok (.getfield 19, 3) := by decide +kernel
theorem dX4_inCircle_10 : decode cX4_inCircle 10 = .ok (.aload_n 0, 1) := by decide +kernel
theorem dX4_inCircle_11 : decode cX4_inCircle 11 = .ok (.getfield 19, 3) := by decide +kernel
theorem dX4_inCircle_14 : decode cX4_inCircle 14 = .ok (.imul, 1) := by decide +kernel
theorem dX4_inCircle_15 : decode cX4_inCircle 15 = .ok (.isub, 1) := by decide +kernel
theorem dX4_inCircle_16 : decode cX4_inCircle 16 = .ok (.i2l, 1) := by decide +kernel
theorem dX4_inCircle_17 : decode cX4_inCircle 17 = .ok (.lstore_n 3, 1) := by decide +kernel
theorem dX4_inCircle_18 : decode cX4_inCircle 18 = .ok (.ldc2_w 98, 3) := by decide +kernel
theorem dX4_inCircle_21 : decode cX4_inCircle 21 = .ok (.lload_n 1, 1) := by decide +kernel
theorem dX4_inCircle_22 : decode cX4_inCircle 22 = .ok (.lmul, 1) := by decide +kernel
theorem dX4_inCircle_23 : decode cX4_inCircle 23 = .ok (.invokestatic 100, 3) := by decide +kernel
theorem dX4_inCircle_26 : decode cX4_inCircle 26 = .ok (.lstore 5, 2) := by decide +kernel
theorem dX4_inCircle_28 : decode cX4_inCircle 28 = .ok (.lconst 0, 1) := by decide +kernel
theorem dX4_inCircle_29 : decode cX4_inCircle 29 = .ok (.lstore 7, 2) := by decide +kernel
theorem dX4_inCircle_31 : decode cX4_inCircle 31 = .ok (.lconst 0, 1) := by decide +kernel
theorem dX4_inCircle_32 : decode cX4_inCircle 32 = .ok (.lstore 9, 2) := by decide +kernel
theorem dX4_inCircle_34 : decode cX4_inCircle 34 = .ok (.lload 9, 2) := by decide +kernel
theorem dX4_inCircle_36 : decode cX4_inCircle 36 = .ok (.ldc2_w 96, 3) := by decide +kernel
theorem dX4_inCircle_39 : decode cX4_inCircle 39 = .ok (.lcmp, 1) := by decide +kernel
theorem dX4_inCircle_40 : decode cX4_inCircle 40 = .ok (.ifCond .ge 147, 3) := by decide +kernel
theorem dX4_inCircle_43 : decode cX4_inCircle 43 = .ok (.lload_n 3, 1) := by decide +kernel
theorem dX4_inCircle_44 : decode cX4_inCircle 44 = .ok (.lload 9, 2) := by decide +kernel
theorem dX4_inCircle_46 : decode cX4_inCircle 46 = .ok (.lmul, 1) := by decide +kernel
theorem dX4_inCircle_47 : decode cX4_inCircle 47 = .ok (.lload 9, 2) := by decide +kernel
theorem dX4_inCircle_49 : decode cX4_inCircle 49 = .ok (.lmul, 1) := by decide +kernel
theorem dX4_inCircle_50 : decode cX4_inCircle 50 = .ok (.ldc2_w 98, 3) := by decide +kernel
theorem dX4_inCircle_53 : decode cX4_inCircle 53 = .ok (.lload_n 1, 1) := by decide +kernel
theorem dX4_inCircle_54 : decode cX4_inCircle 54 = .ok (.lmul, 1) := by decide +kernel
theorem dX4_inCircle_55 : decode cX4_inCircle 55 = .ok (.lcmp, 1) := by decide +kernel
theorem dX4_inCircle_56 : decode cX4_inCircle 56 = .ok (.ifCond .gt 131, 3) := by decide +kernel
theorem dX4_inCircle_59 : decode cX4_inCircle 59 = .ok (.lload 5, 2) := by decide +kernel
theorem dX4_inCircle_61 : decode cX4_inCircle 61 = .ok (.lconst 0, 1) := by decide +kernel
theorem dX4_inCircle_62 : decode cX4_inCircle 62 = .ok (.lcmp, 1) := by decide +kernel
theorem dX4_inCircle_63 : decode cX4_inCircle 63 = .ok (.ifCond .le 34, 3) := by decide +kernel
theorem dX4_inCircle_66 : decode cX4_inCircle 66 = .ok (.lload 5, 2) := by decide +kernel
theorem dX4_inCircle_68 : decode cX4_inCircle 68 = .ok (.lload 5, 2) := by decide +kernel
theorem dX4_inCircle_70 : decode cX4_inCircle 70 = .ok (.lmul, 1) := by decide +kernel
theorem dX4_inCircle_71 : decode cX4_inCircle 71 = .ok (.ldc2_w 98, 3) := by decide +kernel
theorem dX4_inCircle_74 : decode cX4_inCircle 74 = .ok (.lload_n 1, 1) := by decide +kernel
theorem dX4_inCircle_75 : decode cX4_inCircle 75 = .ok (.lmul, 1) := by decide +kernel
theorem dX4_inCircle_76 : decode cX4_inCircle 76 = .ok (.lload_n 3, 1) := by decide +kernel
theorem dX4_inCircle_77 : decode cX4_inCircle 77 = .ok (.lload 9, 2) := by decide +kernel
theorem dX4_inCircle_79 : decode cX4_inCircle 79 = .ok (.lmul, 1) := by decide +kernel
theorem dX4_inCircle_80 : decode cX4_inCircle 80 = .ok (.lload 9, 2) := by decide +kernel
theorem dX4_inCircle_82 : decode cX4_inCircle 82 = .ok (.lmul, 1) := by decide +kernel
theorem dX4_inCircle_83 : decode cX4_inCircle 83 = .ok (.lsub, 1) := by decide +kernel
theorem dX4_inCircle_84 : decode cX4_inCircle 84 = .ok (.lcmp, 1) := by decide +kernel
theorem dX4_inCircle_85 : decode cX4_inCircle 85 = .ok (.ifCond .le 12, 3) := by decide +kernel
theorem dX4_inCircle_88 : decode cX4_inCircle 88 = .ok (.lload 5, 2) := by decide +kernel
theorem dX4_inCircle_90 : decode cX4_inCircle 90 = .ok (.lconst 1, 1) := by decide +kernel
theorem dX4_inCircle_91 : decode cX4_inCircle 91 = .ok (.lsub, 1) := by decide +kernel
theorem dX4_inCircle_92 : decode cX4_inCircle 92 = .ok (.lstore 5, 2) := by decide +kernel
theorem dX4_inCircle_94 : decode cX4_inCircle 94 = .ok (.goto (-35), 3) := by decide +kernel
theorem dX4_inCircle_97 : decode cX4_inCircle 97 = .ok (.aload_n 0, 1) := by decide +kernel
theorem dX4_inCircle_98 : decode cX4_inCircle 98 = .ok (.getfield 19, 3) := by decide +kernel
theorem dX4_inCircle_101 : decode cX4_inCircle 101 = .ok (.i2l, 1) := by decide +kernel
theorem dX4_inCircle_102 : decode cX4_inCircle 102 = .ok (.lload 9, 2) := by decide +kernel
theorem dX4_inCircle_104 : decode cX4_inCircle 104 = .ok (.lmul, 1) := by decide +kernel
theorem dX4_inCircle_105 : decode cX4_inCircle 105 = .ok (.ldc2_w 103, 3) := by decide +kernel
theorem dX4_inCircle_108 : decode cX4_inCircle 108 = .ok (.lrem, 1) := by decide +kernel
theorem dX4_inCircle_109 : decode cX4_inCircle 109 = .ok (.lconst 0, 1) := by decide +kernel
theorem dX4_inCircle_110 : decode cX4_inCircle 110 = .ok (.lcmp, 1) := by decide +kernel
theorem dX4_inCircle_111 : decode cX4_inCircle 111 = .ok (.ifCond .ne 7, 3) := by decide +kernel
theorem dX4_inCircle_114 : decode cX4_inCircle 114 = .ok (.iconst 1, 1) := by decide +kernel
theorem dX4_inCircle_115 : decode cX4_inCircle 115 = .ok (.goto 4, 3) := by decide +kernel
theorem dX4_inCircle_118 : decode cX4_inCircle 118 = .ok (.iconst 0, 1) := by decide +kernel
theorem dX4_inCircle_119 : decode cX4_inCircle 119 = .ok (.istore 11, 2) := by decide +kernel
theorem dX4_inCircle_121 : decode cX4_inCircle 121 = .ok (.iload 11, 2) := by decide +kernel
theorem dX4_inCircle_123 : decode cX4_inCircle 123 = .ok (.ifCond .eq 18, 3) := by decide +kernel
theorem dX4_inCircle_126 : decode cX4_inCircle 126 = .ok (.lload 5, 2) := by decide +kernel
theorem dX4_inCircle_128 : decode cX4_inCircle 128 = .ok (.ldc2_w 103, 3) := by decide +kernel
theorem dX4_inCircle_131 : decode cX4_inCircle 131 = .ok (.ldiv, 1) := by decide +kernel
theorem dX4_inCircle_132 : decode cX4_inCircle 132 = .ok (.ldc2_w 103, 3) := by decide +kernel
theorem dX4_inCircle_135 : decode cX4_inCircle 135 = .ok (.lmul, 1) := by decide +kernel
theorem dX4_inCircle_136 : decode cX4_inCircle 136 = .ok (.lconst 1, 1) := by decide +kernel
theorem dX4_inCircle_137 : decode cX4_inCircle 137 = .ok (.ladd, 1) := by decide +kernel
theorem dX4_inCircle_138 : decode cX4_inCircle 138 = .ok (.goto 15, 3) := by decide +kernel
theorem dX4_inCircle_141 : decode cX4_inCircle 141 = .ok (.lload 5, 2) := by decide +kernel
theorem dX4_inCircle_143 : decode cX4_inCircle 143 = .ok (.lconst 1, 1) := by decide +kernel
theorem dX4_inCircle_144 : decode cX4_inCircle 144 = .ok (.ladd, 1) := by decide +kernel
theorem dX4_inCircle_145 : decode cX4_inCircle 145 = .ok (.ldc2_w 103, 3) := by decide +kernel
theorem dX4_inCircle_148 : decode cX4_inCircle 148 = .ok (.ldiv, 1) := by decide +kernel
theorem dX4_inCircle_149 : decode cX4_inCircle 149 = .ok (.ldc2_w 103, 3) := by decide +kernel
theorem dX4_inCircle_152 : decode cX4_inCircle 152 = .ok (.lmul, 1) := by decide +kernel
theorem dX4_inCircle_153 : decode cX4_inCircle 153 = .ok (.lstore 12, 2) := by decide +kernel
theorem dX4_inCircle_155 : decode cX4_inCircle 155 = .ok (.lload 7, 2) := by decide +kernel
theorem dX4_inCircle_157 : decode cX4_inCircle 157 = .ok (.lload 9, 2) := by decide +kernel
theorem dX4_inCircle_159 : decode cX4_inCircle 159 = .ok (.lconst 0, 1) := by decide +kernel
theorem dX4_inCircle_160 : decode cX4_inCircle 160 = .ok (.lcmp, 1) := by decide +kernel
theorem dX4_inCircle_161 : decode cX4_inCircle 161 = .ok (.ifCond .ne 8, 3) := by decide +kernel
theorem dX4_inCircle_164 : decode cX4_inCircle 164 = .ok (.lload 12, 2) := by decide +kernel
theorem dX4_inCircle_166 : decode cX4_inCircle 166 = .ok (.goto 9, 3) := by decide +kernel
theorem dX4_inCircle_169 : decode cX4_inCircle 169 = .ok (.ldc2_w 103, 3) := by decide +kernel
theorem dX4_inCircle_172 : decode cX4_inCircle 172 = .ok (.lload 12, 2) := by decide +kernel
theorem dX4_inCircle_174 : decode cX4_inCircle 174 = .ok (.lmul, 1) := by decide +kernel
theorem dX4_inCircle_175 : decode cX4_inCircle 175 = .ok (.ladd, 1) := by decide +kernel
theorem dX4_inCircle_176 : decode cX4_inCircle 176 = .ok (.lstore 7, 2) := by decide +kernel
theorem dX4_inCircle_178 : decode cX4_inCircle 178 = .ok (.lload 9, 2) := by decide +kernel
theorem dX4_inCircle_180 : decode cX4_inCircle 180 = .ok (.lconst 1, 1) := by decide +kernel
theorem dX4_inCircle_181 : decode cX4_inCircle 181 = .ok (.ladd, 1) := by decide +kernel
theorem dX4_inCircle_182 : decode cX4_inCircle 182 = .ok (.lstore 9, 2) := by decide +kernel
theorem dX4_inCircle_184 : decode cX4_inCircle 184 = .ok (.goto (-150), 3) := by decide +kernel
theorem dX4_inCircle_187 : decode cX4_inCircle 187 = .ok (.lload 7, 2) := by decide +kernel
theorem dX4_inCircle_189 : decode cX4_inCircle 189 = .ok (.lreturn, 1) := by decide +kernel
theorem dX4_squareRoot_0 : decode cX4_squareRoot 0 = .ok (.lconst 0, 1) := by decide +kernel
theorem dX4_squareRoot_1 : decode cX4_squareRoot 1 = .ok (.lstore_n 2, 1) := by decide +kernel
theorem dX4_squareRoot_2 : decode cX4_squareRoot 2 = .ok (.ldc2_w 105, 3) := by decide +kernel
theorem dX4_squareRoot_5 : decode cX4_squareRoot 5 = .ok (.lstore 4, 2) := by decide +kernel
theorem dX4_squareRoot_7 : decode cX4_squareRoot 7 = .ok (.lload 4, 2) := by decide +kernel
theorem dX4_squareRoot_9 : decode cX4_squareRoot 9 = .ok (.lconst 0, 1) := by decide +kernel
theorem dX4_squareRoot_10 : decode cX4_squareRoot 10 = .ok (.lcmp, 1) := by decide +kernel
theorem dX4_squareRoot_11 : decode cX4_squareRoot 11 = .ok (.ifCond .le 31, 3) := by decide +kernel
theorem dX4_squareRoot_14 : decode cX4_squareRoot 14 = .ok (.lload_n 2, 1) := by decide +kernel
theorem dX4_squareRoot_15 : decode cX4_squareRoot 15 = .ok (.lload 4, 2) := by decide +kernel
theorem dX4_squareRoot_17 : decode cX4_squareRoot 17 = .ok (.ladd, 1) := by decide +kernel
theorem dX4_squareRoot_18 : decode cX4_squareRoot 18 = .ok (.lload_n 2, 1) := by decide +kernel
theorem dX4_squareRoot_19 : decode cX4_squareRoot 19 = .ok (.lload 4, 2) := by decide +kernel
theorem dX4_squareRoot_21 : decode cX4_squareRoot 21 = .ok (.ladd, 1) := by decide +kernel
theorem dX4_squareRoot_22 : decode cX4_squareRoot 22 = .ok (.lmul, 1) := by decide +kernel
theorem dX4_squareRoot_23 : decode cX4_squareRoot 23 = .ok (.lload_n 0, 1) := by decide +kernel
theorem dX4_squareRoot_24 : decode cX4_squareRoot 24 = .ok (.lcmp, 1) := by decide +kernel
theorem dX4_squareRoot_25 : decode cX4_squareRoot 25 = .ok (.ifCond .gt 8, 3) := by decide +kernel
theorem dX4_squareRoot_28 : decode cX4_squareRoot 28 = .ok (.lload_n 2, 1) := by decide +kernel
theorem dX4_squareRoot_29 : decode cX4_squareRoot 29 = .ok (.lload 4, 2) := by decide +kernel
theorem dX4_squareRoot_31 : decode cX4_squareRoot 31 = .ok (.ladd, 1) := by decide +kernel
theorem dX4_squareRoot_32 : decode cX4_squareRoot 32 = .ok (.lstore_n 2, 1) := by decide +kernel
theorem dX4_squareRoot_33 : decode cX4_squareRoot 33 = .ok (.lload 4, 2) := by decide +kernel
theorem dX4_squareRoot_35 : decode cX4_squareRoot 35 = .ok (.iconst 1, 1) := by decide +kernel
theorem dX4_squareRoot_36 : decode cX4_squareRoot 36 = .ok (.lshr, 1) := by decide +kernel
theorem dX4_squareRoot_37 : decode cX4_squareRoot 37 = .ok (.lstore 4, 2) := by decide +kernel
theorem dX4_squareRoot_39 : decode cX4_squareRoot 39 = .ok (.goto (-32), 3) := by decide +kernel
theorem dX4_squareRoot_42 : decode cX4_squareRoot 42 = .ok (.lload_n 2, 1) := by decide +kernel
theorem dX4_squareRoot_43 : decode cX4_squareRoot 43 = .ok (.lreturn, 1) := by decide +kernel
theorem dX5_init_0 : decode cX5_init 0 = .ok (.aload_n 0, 1) := by decide +kernel
theorem dX5_init_1 : decode cX5_init 1 = .ok (.invokespecial 3, 3) := by decide +kernel
theorem dX5_init_4 : decode cX5_init 4 = .ok (.aload_n 0, 1) := by decide +kernel
theorem dX5_init_5 : decode cX5_init 5 = .ok (.sipush 625, 3) := by decide +kernel
theorem dX5_init_8 : decode cX5_init 8 = .ok (.newarray .int, 2) := by decide +kernel
theorem dX5_init_10 : decode cX5_init 10 = .ok (.putfield 9, 3) := by decide +kernel
theorem dX5_init_13 : decode cX5_init 13 = .ok (.aload_n 0, 1) := by decide +kernel
theorem dX5_init_14 : decode cX5_init 14 = .ok (.aload_n 1, 1) := by decide +kernel
theorem dX5_init_15 : decode cX5_init 15 = .ok (.putfield 13, 3) := by decide +kernel
theorem dX5_init_18 : decode cX5_init 18 = .ok (.return_, 1) := by decide +kernel
theorem dX5_takeBase_0 : decode cX5_takeBase 0 = .ok (.aload_n 0, 1) := by decide +kernel
theorem dX5_takeBase_1 : decode cX5_takeBase 1 = .ok (.getfield 13, 3) := by decide +kernel
theorem dX5_takeBase_4 : decode cX5_takeBase 4 = .ok (.lload_n 1, 1) := by decide +kernel
theorem dX5_takeBase_5 : decode cX5_takeBase 5 = .ok (.invokevirtual 17, 3) := by decide +kernel
theorem dX5_takeBase_8 : decode cX5_takeBase 8 = .ok (.lstore_n 3, 1) := by decide +kernel
theorem dX5_takeBase_9 : decode cX5_takeBase 9 = .ok (.lload_n 3, 1) := by decide +kernel
theorem dX5_takeBase_10 : decode cX5_takeBase 10 = .ok (.ldc2_w 23, 3) := by decide +kernel
theorem dX5_takeBase_13 : decode cX5_takeBase 13 = .ok (.lcmp, 1) := by decide +kernel
theorem dX5_takeBase_14 : decode cX5_takeBase 14 = .ok (.ifCond .lt 11, 3) := by decide +kernel
theorem dX5_takeBase_17 : decode cX5_takeBase 17 = .ok (.lload_n 3, 1) := by decide +kernel
theorem dX5_takeBase_18 : decode cX5_takeBase 18 = .ok (.ldc2_w 25, 3) := by decide +kernel
theorem dX5_takeBase_21 : decode cX5_takeBase 21 = .ok (.lcmp, 1) := by decide +kernel
theorem dX5_takeBase_22 : decode cX5_takeBase 22 = .ok (.ifCond .le 5, 3) := by decide +kernel
theorem dX5_takeBase_25 : decode cX5_takeBase 25 = .ok (.iconst 0, 1) := by decide +kernel
theorem dX5_takeBase_26 : decode cX5_takeBase 26 = .ok (.ireturn, 1) := by decide +kernel
theorem dX5_takeBase_27 : decode cX5_takeBase 27 = .ok (.aload_n 0, 1) := by decide +kernel
theorem dX5_takeBase_28 : decode cX5_takeBase 28 = .ok (.lload_n 1, 1) := by decide +kernel
theorem dX5_takeBase_29 : decode cX5_takeBase 29 = .ok (.putfield 27, 3) := by decide +kernel
theorem dX5_takeBase_32 : decode cX5_takeBase 32 = .ok (.aload_n 0, 1) := by decide +kernel
theorem dX5_takeBase_33 : decode cX5_takeBase 33 = .ok (.lload_n 3, 1) := by decide +kernel
theorem dX5_takeBase_34 : decode cX5_takeBase 34 = .ok (.l2i, 1) := by decide +kernel
theorem dX5_takeBase_35 : decode cX5_takeBase 35 = .ok (.putfield 31, 3) := by decide +kernel
theorem dX5_takeBase_38 : decode cX5_takeBase 38 = .ok (.aload_n 0, 1) := by decide +kernel
theorem dX5_takeBase_39 : decode cX5_takeBase 39 = .ok (.iconst 0, 1) := by decide +kernel
theorem dX5_takeBase_40 : decode cX5_takeBase 40 = .ok (.putfield 35, 3) := by decide +kernel
theorem dX5_takeBase_43 : decode cX5_takeBase 43 = .ok (.iconst 1, 1) := by decide +kernel
theorem dX5_takeBase_44 : decode cX5_takeBase 44 = .ok (.istore 5, 2) := by decide +kernel
theorem dX5_takeBase_46 : decode cX5_takeBase 46 = .ok (.iload 5, 2) := by decide +kernel
theorem dX5_takeBase_48 : decode cX5_takeBase 48 = .ok (.aload_n 0, 1) := by decide +kernel
theorem dX5_takeBase_49 : decode cX5_takeBase 49 = .ok (.getfield 31, 3) := by decide +kernel
theorem dX5_takeBase_52 : decode cX5_takeBase 52 = .ok (.if_icmp .ge 57, 3) := by decide +kernel
theorem dX5_takeBase_55 : decode cX5_takeBase 55 = .ok (.aload_n 0, 1) := by decide +kernel
theorem dX5_takeBase_56 : decode cX5_takeBase 56 = .ok (.getfield 13, 3) := by decide +kernel
theorem dX5_takeBase_59 : decode cX5_takeBase 59 = .ok (.lload_n 1, 1) := by decide +kernel
theorem dX5_takeBase_60 : decode cX5_takeBase 60 = .ok (.iload 5, 2) := by decide +kernel
theorem dX5_takeBase_62 : decode cX5_takeBase 62 = .ok (.i2l, 1) := by decide +kernel
theorem dX5_takeBase_63 : decode cX5_takeBase 63 = .ok (.lconst 0, 1) := by decide +kernel
theorem dX5_takeBase_64 : decode cX5_takeBase 64 = .ok (.invokestatic 38, 3) := by decide +kernel
theorem dX5_takeBase_67 : decode cX5_takeBase 67 = .ok (.invokevirtual 42, 3) := by decide +kernel
theorem dX5_takeBase_70 : decode cX5_takeBase 70 = .ok (.ifCond .eq 5, 3) := by decide +kernel
theorem dX5_takeBase_73 : decode cX5_takeBase 73 = .ok (.iconst 0, 1) := by decide +kernel
theorem dX5_takeBase_74 : decode cX5_takeBase 74 = .ok (.ireturn, 1) := by decide +kernel
theorem dX5_takeBase_75 : decode cX5_takeBase 75 = .ok (.aload_n 0, 1) := by decide +kernel
theorem dX5_takeBase_76 : decode cX5_takeBase 76 = .ok (.getfield 13, 3) := by decide +kernel
theorem dX5_takeBase_79 : decode cX5_takeBase 79 = .ok (.lload_n 1, 1) := by decide +kernel
theorem dX5_takeBase_80 : decode cX5_takeBase 80 = .ok (.lconst 1, 1) := by decide +kernel
theorem dX5_takeBase_81 : decode cX5_takeBase 81 = .ok (.iload 5, 2) := by decide +kernel
theorem dX5_takeBase_83 : decode cX5_takeBase 83 = .ok (.i2l, 1) := by decide +kernel
theorem dX5_takeBase_84 : decode cX5_takeBase 84 = .ok (.lconst 0, 1) := by decide +kernel
theorem dX5_takeBase_85 : decode cX5_takeBase 85 = .ok (.invokestatic 38, 3) := by decide +kernel
theorem dX5_takeBase_88 : decode cX5_takeBase 88 = .ok (.invokestatic 46, 3) := by decide +kernel
theorem dX5_takeBase_91 : decode cX5_takeBase 91 = .ok (.invokevirtual 42, 3) := by decide +kernel
theorem dX5_takeBase_94 : decode cX5_takeBase 94 = .ok (.ifCond .eq 9, 3) := by decide +kernel
theorem dX5_takeBase_97 : decode cX5_takeBase 97 = .ok (.aload_n 0, 1) := by decide +kernel
theorem dX5_takeBase_98 : decode cX5_takeBase 98 = .ok (.iload 5, 2) := by decide +kernel
theorem dX5_takeBase_100 : decode cX5_takeBase 100 = .ok (.putfield 35, 3) := by decide +kernel
theorem dX5_takeBase_103 : decode cX5_takeBase 103 = .ok (.iinc 5 1, 3) := by decide +kernel
theorem dX5_takeBase_106 : decode cX5_takeBase 106 = .ok (.goto (-60), 3) := by decide +kernel
theorem dX5_takeBase_109 : decode cX5_takeBase 109 = .ok (.iconst 1, 1) := by decide +kernel
theorem dX5_takeBase_110 : decode cX5_takeBase 110 = .ok (.ireturn, 1) := by decide +kernel
theorem dX5_lastDigit_0 : decode cX5_lastDigit 0 = .ok (.aload_n 0, 1) := by decide +kernel
theorem dX5_lastDigit_1 : decode cX5_lastDigit 1 = .ok (.getfield 31, 3) := by decide +kernel
theorem dX5_lastDigit_4 : decode cX5_lastDigit 4 = .ok (.iconst 1, 1) := by decide +kernel
theorem dX5_lastDigit_5 : decode cX5_lastDigit 5 = .ok (.if_icmp .ge 7, 3) := by decide +kernel
theorem dX5_lastDigit_8 : decode cX5_lastDigit 8 = .ok (.iconst 0, 1) := by decide +kernel
theorem dX5_lastDigit_9 : decode cX5_lastDigit 9 = .ok (.goto 27, 3) := by decide +kernel
theorem dX5_lastDigit_12 : decode cX5_lastDigit 12 = .ok (.lload_n 1, 1) := by decide +kernel
theorem dX5_lastDigit_13 : decode cX5_lastDigit 13 = .ok (.invokestatic 49, 3) := by decide +kernel
theorem dX5_lastDigit_16 : decode cX5_lastDigit 16 = .ok (.lload_n 1, 1) := by decide +kernel
theorem dX5_lastDigit_17 : decode cX5_lastDigit 17 = .ok (.invokestatic 52, 3) := by decide +kernel
theorem dX5_lastDigit_20 : decode cX5_lastDigit 20 = .ok (.aload_n 0, 1) := by decide +kernel
theorem dX5_lastDigit_21 : decode cX5_lastDigit 21 = .ok (.getfield 35, 3) := by decide +kernel
theorem dX5_lastDigit_24 : decode cX5_lastDigit 24 = .ok (.i2l, 1) := by decide +kernel
theorem dX5_lastDigit_25 : decode cX5_lastDigit 25 = .ok (.lmul, 1) := by decide +kernel
theorem dX5_lastDigit_26 : decode cX5_lastDigit 26 = .ok (.ladd, 1) := by decide +kernel
theorem dX5_lastDigit_27 : decode cX5_lastDigit 27 = .ok (.aload_n 0, 1) := by decide +kernel
theorem dX5_lastDigit_28 : decode cX5_lastDigit 28 = .ok (.getfield 31, 3) := by decide +kernel
theorem dX5_lastDigit_31 : decode cX5_lastDigit 31 = .ok (.i2l, 1) := by decide +kernel
theorem dX5_lastDigit_32 : decode cX5_lastDigit 32 = .ok (.invokestatic 55, 3) := by decide +kernel
theorem dX5_lastDigit_35 : decode cX5_lastDigit 35 = .ok (.l2i, 1) := by decide +kernel
theorem dX5_lastDigit_36 : decode cX5_lastDigit 36 = .ok (.ireturn, 1) := by decide +kernel
theorem dX5_after_0 : decode cX5_after 0 = .ok (.aload_n 0, 1) := by decide +kernel
theorem dX5_after_1 : decode cX5_after 1 = .ok (.getfield 13, 3) := by decide +kernel
theorem dX5_after_4 : decode cX5_after 4 = .ok (.lload_n 1, 1) := by decide +kernel
theorem dX5_after_5 : decode cX5_after 5 = .ok (.aload_n 0, 1) := by decide +kernel
theorem dX5_after_6 : decode cX5_after 6 = .ok (.lload_n 1, 1) := by decide +kernel
theorem dX5_after_7 : decode cX5_after 7 = .ok (.invokevirtual 60, 3) := by decide +kernel
theorem dX5_after_10 : decode cX5_after 10 = .ok (.i2l, 1) := by decide +kernel
theorem dX5_after_11 : decode cX5_after 11 = .ok (.lconst 0, 1) := by decide +kernel
theorem dX5_after_12 : decode cX5_after 12 = .ok (.invokestatic 38, 3) := by decide +kernel
theorem dX5_after_15 : decode cX5_after 15 = .ok (.invokestatic 46, 3) := by decide +kernel
theorem dX5_after_18 : decode cX5_after 18 = .ok (.aload_n 0, 1) := by decide +kernel
theorem dX5_after_19 : decode cX5_after 19 = .ok (.getfield 27, 3) := by decide +kernel
theorem dX5_after_22 : decode cX5_after 22 = .ok (.invokevirtual 64, 3) := by decide +kernel
theorem dX5_after_25 : decode cX5_after 25 = .ok (.lreturn, 1) := by decide +kernel
theorem dX5_measure_0 : decode cX5_measure 0 = .ok (.lload_n 1, 1) := by decide +kernel
theorem dX5_measure_1 : decode cX5_measure 1 = .ok (.lstore_n 3, 1) := by decide +kernel
theorem dX5_measure_2 : decode cX5_measure 2 = .ok (.iconst 0, 1) := by decide +kernel
theorem dX5_measure_3 : decode cX5_measure 3 = .ok (.istore 5, 2) := by decide +kernel
theorem dX5_measure_5 : decode cX5_measure 5 = .ok (.iload 5, 2) := by decide +kernel
theorem dX5_measure_7 : decode cX5_measure 7 = .ok (.sipush 1000, 3) := by decide +kernel
theorem dX5_measure_10 : decode cX5_measure 10 = .ok (.if_icmp .ge 15, 3) := by decide +kernel
theorem dX5_measure_13 : decode cX5_measure 13 = .ok (.aload_n 0, 1) := by decide +kernel
theorem dX5_measure_14 : decode cX5_measure 14 = .ok (.lload_n 3, 1) := by decide +kernel
theorem dX5_measure_15 : decode cX5_measure 15 = .ok (.invokevirtual 67, 3) := by decide +kernel
theorem dX5_measure_18 : decode cX5_measure 18 = .ok (.lstore_n 3, 1) := by decide +kernel
theorem dX5_measure_19 : decode cX5_measure 19 = .ok (.iinc 5 1, 3) := by decide +kernel
theorem dX5_measure_22 : decode cX5_measure 22 = .ok (.goto (-17), 3) := by decide +kernel
theorem dX5_measure_25 : decode cX5_measure 25 = .ok (.aload_n 0, 1) := by decide +kernel
theorem dX5_measure_26 : decode cX5_measure 26 = .ok (.lload_n 3, 1) := by decide +kernel
theorem dX5_measure_27 : decode cX5_measure 27 = .ok (.invokevirtual 70, 3) := by decide +kernel
theorem dX5_measure_30 : decode cX5_measure 30 = .ok (.istore 5, 2) := by decide +kernel
theorem dX5_measure_32 : decode cX5_measure 32 = .ok (.lload_n 1, 1) := by decide +kernel
theorem dX5_measure_33 : decode cX5_measure 33 = .ok (.lstore 6, 2) := by decide +kernel
theorem dX5_measure_35 : decode cX5_measure 35 = .ok (.lload_n 1, 1) := by decide +kernel
theorem dX5_measure_36 : decode cX5_measure 36 = .ok (.lstore 8, 2) := by decide +kernel
theorem dX5_measure_38 : decode cX5_measure 38 = .ok (.iconst 0, 1) := by decide +kernel
theorem dX5_measure_39 : decode cX5_measure 39 = .ok (.istore 10, 2) := by decide +kernel
theorem dX5_measure_41 : decode cX5_measure 41 = .ok (.iload 10, 2) := by decide +kernel
theorem dX5_measure_43 : decode cX5_measure 43 = .ok (.iload 5, 2) := by decide +kernel
theorem dX5_measure_45 : decode cX5_measure 45 = .ok (.if_icmp .ge 17, 3) := by decide +kernel
theorem dX5_measure_48 : decode cX5_measure 48 = .ok (.aload_n 0, 1) := by decide +kernel
theorem dX5_measure_49 : decode cX5_measure 49 = .ok (.lload 8, 2) := by decide +kernel
theorem dX5_measure_51 : decode cX5_measure 51 = .ok (.invokevirtual 67, 3) := by decide +kernel
theorem dX5_measure_54 : decode cX5_measure 54 = .ok (.lstore 8, 2) := by decide +kernel
theorem dX5_measure_56 : decode cX5_measure 56 = .ok (.iinc 10 1, 3) := by decide +kernel
theorem dX5_measure_59 : decode cX5_measure 59 = .ok (.goto (-18), 3) := by decide +kernel
theorem dX5_measure_62 : decode cX5_measure 62 = .ok (.aload_n 0, 1) := by decide +kernel
theorem dX5_measure_63 : decode cX5_measure 63 = .ok (.iconst 0, 1) := by decide +kernel
theorem dX5_measure_64 : decode cX5_measure 64 = .ok (.putfield 73, 3) := by decide +kernel
theorem dX5_measure_67 : decode cX5_measure 67 = .ok (.aload_n 0, 1) := by decide +kernel
theorem dX5_measure_68 : decode cX5_measure 68 = .ok (.getfield 73, 3) := by decide +kernel
theorem dX5_measure_71 : decode cX5_measure 71 = .ok (.sipush 1000, 3) := by decide +kernel
theorem dX5_measure_74 : decode cX5_measure 74 = .ok (.if_icmp .ge 40, 3) := by decide +kernel
theorem dX5_measure_77 : decode cX5_measure 77 = .ok (.lload 6, 2) := by decide +kernel
theorem dX5_measure_79 : decode cX5_measure 79 = .ok (.lload 8, 2) := by decide +kernel
theorem dX5_measure_81 : decode cX5_measure 81 = .ok (.lcmp, 1) := by decide +kernel
theorem dX5_measure_82 : decode cX5_measure 82 = .ok (.ifCond .eq 32, 3) := by decide +kernel
theorem dX5_measure_85 : decode cX5_measure 85 = .ok (.aload_n 0, 1) := by decide +kernel
theorem dX5_measure_86 : decode cX5_measure 86 = .ok (.lload 6, 2) := by decide +kernel
theorem dX5_measure_88 : decode cX5_measure 88 = .ok (.invokevirtual 67, 3) := by decide +kernel
theorem dX5_measure_91 : decode cX5_measure 91 = .ok (.lstore 6, 2) := by decide +kernel
theorem dX5_measure_93 : decode cX5_measure 93 = .ok (.aload_n 0, 1) := by decide +kernel
theorem dX5_measure_94 : decode cX5_measure 94 = .ok (.lload 8, 2) := by decide +kernel
theorem dX5_measure_96 : decode cX5_measure 96 = .ok (.invokevirtual 67, 3) := by decide +kernel
theorem dX5_measure_99 : decode cX5_measure 99 = .ok (.lstore 8, 2) := by decide +kernel
theorem dX5_measure_101 : decode cX5_measure 101 = .ok (.aload_n 0, 1) := by decide +kernel
theorem dX5_measure_102 : decode cX5_measure 102 = .ok (.dup, 1) := by decide +kernel
theorem dX5_measure_103 : decode cX5_measure 103 = .ok (.getfield 73, 3) := by decide +kernel
theorem dX5_measure_106 : decode cX5_measure 106 = .ok (.iconst 1, 1) := by decide +kernel
theorem dX5_measure_107 : decode cX5_measure 107 = .ok (.iadd, 1) := by decide +kernel
theorem dX5_measure_108 : decode cX5_measure 108 = .ok (.putfield 73, 3) := by decide +kernel
theorem dX5_measure_111 : decode cX5_measure 111 = .ok (.goto (-44), 3) := by decide +kernel
theorem dX5_measure_114 : decode cX5_measure 114 = .ok (.aload_n 0, 1) := by decide +kernel
theorem dX5_measure_115 : decode cX5_measure 115 = .ok (.lload_n 3, 1) := by decide +kernel
theorem dX5_measure_116 : decode cX5_measure 116 = .ok (.lconst 0, 1) := by decide +kernel
theorem dX5_measure_117 : decode cX5_measure 117 = .ok (.lcmp, 1) := by decide +kernel
theorem dX5_measure_118 : decode cX5_measure 118 = .ok (.ifCond .ne 7, 3) := by decide +kernel
theorem dX5_measure_121 : decode cX5_measure 121 = .ok (.iconst 0, 1) := by decide +kernel
theorem dX5_measure_122 : decode cX5_measure 122 = .ok (.goto 5, 3) := by decide +kernel
theorem dX5_measure_125 : decode cX5_measure 125 = .ok (.iload 5, 2) := by decide +kernel
theorem dX5_measure_127 : decode cX5_measure 127 = .ok (.putfield 76, 3) := by decide +kernel
theorem dX5_measure_130 : decode cX5_measure 130 = .ok (.return_, 1) := by decide +kernel
theorem dX5_ringLength_0 : decode cX5_ringLength 0 = .ok (.iconst 1, 1) := by decide +kernel
theorem dX5_ringLength_1 : decode cX5_ringLength 1 = .ok (.istore_n 3, 1) := by decide +kernel
theorem dX5_ringLength_2 : decode cX5_ringLength 2 = .ok (.aload_n 0, 1) := by decide +kernel
theorem dX5_ringLength_3 : decode cX5_ringLength 3 = .ok (.lload_n 1, 1) := by decide +kernel
theorem dX5_ringLength_4 : decode cX5_ringLength 4 = .ok (.invokevirtual 67, 3) := by decide +kernel
theorem dX5_ringLength_7 : decode cX5_ringLength 7 = .ok (.lstore 4, 2) := by decide +kernel
theorem dX5_ringLength_9 : decode cX5_ringLength 9 = .ok (.iload_n 3, 1) := by decide +kernel
theorem dX5_ringLength_10 : decode cX5_ringLength 10 = .ok (.sipush 1000, 3) := by decide +kernel
theorem dX5_ringLength_13 : decode cX5_ringLength 13 = .ok (.if_icmp .ge 24, 3) := by decide +kernel
theorem dX5_ringLength_16 : decode cX5_ringLength 16 = .ok (.lload 4, 2) := by decide +kernel
theorem dX5_ringLength_18 : decode cX5_ringLength 18 = .ok (.lload_n 1, 1) := by decide +kernel
theorem dX5_ringLength_19 : decode cX5_ringLength 19 = .ok (.lcmp, 1) := by decide +kernel
theorem dX5_ringLength_20 : decode cX5_ringLength 20 = .ok (.ifCond .eq 17, 3) := by decide +kernel
theorem dX5_ringLength_23 : decode cX5_ringLength 23 = .ok (.aload_n 0, 1) := by decide +kernel
theorem dX5_ringLength_24 : decode cX5_ringLength 24 = .ok (.lload 4, 2) := by decide +kernel
theorem dX5_ringLength_26 : decode cX5_ringLength 26 = .ok (.invokevirtual 67, 3) := by decide +kernel
theorem dX5_ringLength_29 : decode cX5_ringLength 29 = .ok (.lstore 4, 2) := by decide +kernel
theorem dX5_ringLength_31 : decode cX5_ringLength 31 = .ok (.iinc 3 1, 3) := by decide +kernel
theorem dX5_ringLength_34 : decode cX5_ringLength 34 = .ok (.goto (-25), 3) := by decide +kernel
theorem dX5_ringLength_37 : decode cX5_ringLength 37 = .ok (.iload_n 3, 1) := by decide +kernel
theorem dX5_ringLength_38 : decode cX5_ringLength 38 = .ok (.ireturn, 1) := by decide +kernel
theorem dX5_digitAt_0 : decode cX5_digitAt 0 = .ok (.iload_n 3, 1) := by decide +kernel
theorem dX5_digitAt_1 : decode cX5_digitAt 1 = .ok (.aload_n 0, 1) := by decide +kernel
theorem dX5_digitAt_2 : decode cX5_digitAt 2 = .ok (.getfield 73, 3) := by decide +kernel
theorem dX5_digitAt_5 : decode cX5_digitAt 5 = .ok (.if_icmp .lt 12, 3) := by decide +kernel
theorem dX5_digitAt_8 : decode cX5_digitAt 8 = .ok (.aload_n 0, 1) := by decide +kernel
theorem dX5_digitAt_9 : decode cX5_digitAt 9 = .ok (.getfield 76, 3) := by decide +kernel
theorem dX5_digitAt_12 : decode cX5_digitAt 12 = .ok (.ifCond .ne 5, 3) := by decide +kernel
theorem dX5_digitAt_15 : decode cX5_digitAt 15 = .ok (.iconst 0, 1) := by decide +kernel
theorem dX5_digitAt_16 : decode cX5_digitAt 16 = .ok (.ireturn, 1) := by decide +kernel
theorem dX5_digitAt_17 : decode cX5_digitAt 17 = .ok (.iload_n 3, 1) := by decide +kernel
theorem dX5_digitAt_18 : decode cX5_digitAt 18 = .ok (.aload_n 0, 1) := by decide +kernel
theorem dX5_digitAt_19 : decode cX5_digitAt 19 = .ok (.getfield 73, 3) := by decide +kernel
theorem dX5_digitAt_22 : decode cX5_digitAt 22 = .ok (.if_icmp .lt 10, 3) := by decide +kernel
theorem dX5_digitAt_25 : decode cX5_digitAt 25 = .ok (.aload_n 0, 1) := by decide +kernel
theorem dX5_digitAt_26 : decode cX5_digitAt 26 = .ok (.getfield 76, 3) := by decide +kernel
theorem dX5_digitAt_29 : decode cX5_digitAt 29 = .ok (.ifCond .ne 7, 3) := by decide +kernel
theorem dX5_digitAt_32 : decode cX5_digitAt 32 = .ok (.iload_n 3, 1) := by decide +kernel
theorem dX5_digitAt_33 : decode cX5_digitAt 33 = .ok (.goto 19, 3) := by decide +kernel
theorem dX5_digitAt_36 : decode cX5_digitAt 36 = .ok (.aload_n 0, 1) := by decide +kernel
theorem dX5_digitAt_37 : decode cX5_digitAt 37 = .ok (.getfield 73, 3) := by decide +kernel
theorem dX5_digitAt_40 : decode cX5_digitAt 40 = .ok (.iload_n 3, 1) := by decide +kernel
theorem dX5_digitAt_41 : decode cX5_digitAt 41 = .ok (.aload_n 0, 1) := by decide +kernel
theorem dX5_digitAt_42 : decode cX5_digitAt 42 = .ok (.getfield 73, 3) := by decide +kernel
theorem dX5_digitAt_45 : decode cX5_digitAt 45 = .ok (.isub, 1) := by decide +kernel
theorem dX5_digitAt_46 : decode cX5_digitAt 46 = .ok (.aload_n 0, 1) := by decide +kernel
theorem dX5_digitAt_47 : decode cX5_digitAt 47 = .ok (.getfield 76, 3) := by decide +kernel
theorem dX5_digitAt_50 : decode cX5_digitAt 50 = .ok (.irem, 1) := by decide +kernel
theorem dX5_digitAt_51 : decode cX5_digitAt 51 = .ok (.iadd, 1) := by decide +kernel
theorem dX5_digitAt_52 : decode cX5_digitAt 52 = .ok (.istore 4, 2) := by decide +kernel
theorem dX5_digitAt_54 : decode cX5_digitAt 54 = .ok (.lload_n 1, 1) := by decide +kernel
theorem dX5_digitAt_55 : decode cX5_digitAt 55 = .ok (.lstore 5, 2) := by decide +kernel
theorem dX5_digitAt_57 : decode cX5_digitAt 57 = .ok (.iconst 0, 1) := by decide +kernel
theorem dX5_digitAt_58 : decode cX5_digitAt 58 = .ok (.istore 7, 2) := by decide +kernel
theorem dX5_digitAt_60 : decode cX5_digitAt 60 = .ok (.iload 7, 2) := by decide +kernel
theorem dX5_digitAt_62 : decode cX5_digitAt 62 = .ok (.iload 4, 2) := by decide +kernel
theorem dX5_digitAt_64 : decode cX5_digitAt 64 = .ok (.if_icmp .ge 17, 3) := by decide +kernel
theorem dX5_digitAt_67 : decode cX5_digitAt 67 = .ok (.aload_n 0, 1) := by decide +kernel
theorem dX5_digitAt_68 : decode cX5_digitAt 68 = .ok (.lload 5, 2) := by decide +kernel
theorem dX5_digitAt_70 : decode cX5_digitAt 70 = .ok (.invokevirtual 67, 3) := by decide +kernel
theorem dX5_digitAt_73 : decode cX5_digitAt 73 = .ok (.lstore 5, 2) := by decide +kernel
theorem dX5_digitAt_75 : decode cX5_digitAt 75 = .ok (.iinc 7 1, 3) := by decide +kernel
theorem dX5_digitAt_78 : decode cX5_digitAt 78 = .ok (.goto (-18), 3) := by decide +kernel
theorem dX5_digitAt_81 : decode cX5_digitAt 81 = .ok (.aload_n 0, 1) := by decide +kernel
theorem dX5_digitAt_82 : decode cX5_digitAt 82 = .ok (.lload 5, 2) := by decide +kernel
theorem dX5_digitAt_84 : decode cX5_digitAt 84 = .ok (.invokevirtual 60, 3) := by decide +kernel
theorem dX5_digitAt_87 : decode cX5_digitAt 87 = .ok (.ireturn, 1) := by decide +kernel
theorem dX5_sum_0 : decode cX5_sum 0 = .ok (.iconst 0, 1) := by decide +kernel
theorem dX5_sum_1 : decode cX5_sum 1 = .ok (.istore_n 3, 1) := by decide +kernel
theorem dX5_sum_2 : decode cX5_sum 2 = .ok (.lload_n 1, 1) := by decide +kernel
theorem dX5_sum_3 : decode cX5_sum 3 = .ok (.lstore 4, 2) := by decide +kernel
theorem dX5_sum_5 : decode cX5_sum 5 = .ok (.iconst 0, 1) := by decide +kernel
theorem dX5_sum_6 : decode cX5_sum 6 = .ok (.istore 6, 2) := by decide +kernel
theorem dX5_sum_8 : decode cX5_sum 8 = .ok (.iload 6, 2) := by decide +kernel
theorem dX5_sum_10 : decode cX5_sum 10 = .ok (.aload_n 0, 1) := by decide +kernel
theorem dX5_sum_11 : decode cX5_sum 11 = .ok (.getfield 73, 3) := by decide +kernel
theorem dX5_sum_14 : decode cX5_sum 14 = .ok (.aload_n 0, 1) := by decide +kernel
theorem dX5_sum_15 : decode cX5_sum 15 = .ok (.getfield 76, 3) := by decide +kernel
theorem dX5_sum_18 : decode cX5_sum 18 = .ok (.iadd, 1) := by decide +kernel
theorem dX5_sum_19 : decode cX5_sum 19 = .ok (.if_icmp .ge 26, 3) := by decide +kernel
theorem dX5_sum_22 : decode cX5_sum 22 = .ok (.iload_n 3, 1) := by decide +kernel
theorem dX5_sum_23 : decode cX5_sum 23 = .ok (.aload_n 0, 1) := by decide +kernel
theorem dX5_sum_24 : decode cX5_sum 24 = .ok (.lload 4, 2) := by decide +kernel
theorem dX5_sum_26 : decode cX5_sum 26 = .ok (.invokevirtual 60, 3) := by decide +kernel
theorem dX5_sum_29 : decode cX5_sum 29 = .ok (.iadd, 1) := by decide +kernel
theorem dX5_sum_30 : decode cX5_sum 30 = .ok (.istore_n 3, 1) := by decide +kernel
theorem dX5_sum_31 : decode cX5_sum 31 = .ok (.aload_n 0, 1) := by decide +kernel
theorem dX5_sum_32 : decode cX5_sum 32 = .ok (.lload 4, 2) := by decide +kernel
theorem dX5_sum_34 : decode cX5_sum 34 = .ok (.invokevirtual 67, 3) := by decide +kernel
theorem dX5_sum_37 : decode cX5_sum 37 = .ok (.lstore 4, 2) := by decide +kernel
theorem dX5_sum_39 : decode cX5_sum 39 = .ok (.iinc 6 1, 3) := by decide +kernel
theorem dX5_sum_42 : decode cX5_sum 42 = .ok (.goto (-34), 3) := by decide +kernel
theorem dX5_sum_45 : decode cX5_sum 45 = .ok (.iload_n 3, 1) := by decide +kernel
theorem dX5_sum_46 : decode cX5_sum 46 = .ok (.ireturn, 1) := by decide +kernel
theorem dX5_findRings_0 : decode cX5_findRings 0 = .ok (.aload_n 0, 1) := by decide +kernel
theorem dX5_findRings_1 : decode cX5_findRings 1 = .ok (.getfield 9, 3) := by decide +kernel
theorem dX5_findRings_4 : decode cX5_findRings 4 = .ok (.iconst 0, 1) := by decide +kernel
theorem dX5_findRings_5 : decode cX5_findRings 5 = .ok (.invokestatic 79, 3) := by decide +kernel
theorem dX5_findRings_8 : decode cX5_findRings 8 = .ok (.aload_n 0, 1) := by decide +kernel
theorem dX5_findRings_9 : decode cX5_findRings 9 = .ok (.iconst 0, 1) := by decide +kernel
theorem dX5_findRings_10 : decode cX5_findRings 10 = .ok (.putfield 85, 3) := by decide +kernel
theorem dX5_findRings_13 : decode cX5_findRings 13 = .ok (.aload_n 0, 1) := by decide +kernel
theorem dX5_findRings_14 : decode cX5_findRings 14 = .ok (.iconst 0, 1) := by decide +kernel
theorem dX5_findRings_15 : decode cX5_findRings 15 = .ok (.putfield 88, 3) := by decide +kernel
theorem dX5_findRings_18 : decode cX5_findRings 18 = .ok (.iconst 0, 1) := by decide +kernel
theorem dX5_findRings_19 : decode cX5_findRings 19 = .ok (.istore_n 1, 1) := by decide +kernel
theorem dX5_findRings_20 : decode cX5_findRings 20 = .ok (.bipush (-12), 2) := by decide +kernel
theorem dX5_findRings_22 : decode cX5_findRings 22 = .ok (.istore_n 2, 1) := by decide +kernel
theorem dX5_findRings_23 : decode cX5_findRings 23 = .ok (.iload_n 2, 1) := by decide +kernel
theorem dX5_findRings_24 : decode cX5_findRings 24 = .ok (.bipush 12, 2) := by decide +kernel
theorem dX5_findRings_26 : decode cX5_findRings 26 = .ok (.if_icmp .gt 86, 3) := by decide +kernel
theorem dX5_findRings_29 : decode cX5_findRings 29 = .ok (.bipush (-12), 2) := by decide +kernel
theorem dX5_findRings_31 : decode cX5_findRings 31 = .ok (.istore_n 3, 1) := by decide +kernel
theorem dX5_findRings_32 : decode cX5_findRings 32 = .ok (.iload_n 3, 1) := by decide +kernel
theorem dX5_findRings_33 : decode cX5_findRings 33 = .ok (.bipush 12, 2) := by decide +kernel
theorem dX5_findRings_35 : decode cX5_findRings 35 = .ok (.if_icmp .gt 71, 3) := by decide +kernel
theorem dX5_findRings_38 : decode cX5_findRings 38 = .ok (.aload_n 0, 1) := by decide +kernel
theorem dX5_findRings_39 : decode cX5_findRings 39 = .ok (.getfield 13, 3) := by decide +kernel
theorem dX5_findRings_42 : decode cX5_findRings 42 = .ok (.iload_n 2, 1) := by decide +kernel
theorem dX5_findRings_43 : decode cX5_findRings 43 = .ok (.i2l, 1) := by decide +kernel
theorem dX5_findRings_44 : decode cX5_findRings 44 = .ok (.iload_n 3, 1) := by decide +kernel
theorem dX5_findRings_45 : decode cX5_findRings 45 = .ok (.i2l, 1) := by decide +kernel
theorem dX5_findRings_46 : decode cX5_findRings 46 = .ok (.invokestatic 38, 3) := by decide +kernel
theorem dX5_findRings_49 : decode cX5_findRings 49 = .ok (.invokevirtual 17, 3) := by decide +kernel
theorem dX5_findRings_52 : decode cX5_findRings 52 = .ok (.aload_n 0, 1) := by decide +kernel
theorem dX5_findRings_53 : decode cX5_findRings 53 = .ok (.getfield 31, 3) := by decide +kernel
theorem dX5_findRings_56 : decode cX5_findRings 56 = .ok (.i2l, 1) := by decide +kernel
theorem dX5_findRings_57 : decode cX5_findRings 57 = .ok (.lsub, 1) := by decide +kernel
theorem dX5_findRings_58 : decode cX5_findRings 58 = .ok (.lconst 1, 1) := by decide +kernel
theorem dX5_findRings_59 : decode cX5_findRings 59 = .ok (.lsub, 1) := by decide +kernel
theorem dX5_findRings_60 : decode cX5_findRings 60 = .ok (.lstore 4, 2) := by decide +kernel
theorem dX5_findRings_62 : decode cX5_findRings 62 = .ok (.lload 4, 2) := by decide +kernel
theorem dX5_findRings_64 : decode cX5_findRings 64 = .ok (.lconst 0, 1) := by decide +kernel
theorem dX5_findRings_65 : decode cX5_findRings 65 = .ok (.lcmp, 1) := by decide +kernel
theorem dX5_findRings_66 : decode cX5_findRings 66 = .ok (.ifCond .le 21, 3) := by decide +kernel
theorem dX5_findRings_69 : decode cX5_findRings 69 = .ok (.lload 4, 2) := by decide +kernel
theorem dX5_findRings_71 : decode cX5_findRings 71 = .ok (.lload 4, 2) := by decide +kernel
theorem dX5_findRings_73 : decode cX5_findRings 73 = .ok (.lmul, 1) := by decide +kernel
theorem dX5_findRings_74 : decode cX5_findRings 74 = .ok (.ldc2_w 91, 3) := by decide +kernel
theorem dX5_findRings_77 : decode cX5_findRings 77 = .ok (.aload_n 0, 1) := by decide +kernel
theorem dX5_findRings_78 : decode cX5_findRings 78 = .ok (.getfield 31, 3) := by decide +kernel
theorem dX5_findRings_81 : decode cX5_findRings 81 = .ok (.i2l, 1) := by decide +kernel
theorem dX5_findRings_82 : decode cX5_findRings 82 = .ok (.lmul, 1) := by decide +kernel
theorem dX5_findRings_83 : decode cX5_findRings 83 = .ok (.lcmp, 1) := by decide +kernel
theorem dX5_findRings_84 : decode cX5_findRings 84 = .ok (.ifCond .gt 16, 3) := by decide +kernel
theorem dX5_findRings_87 : decode cX5_findRings 87 = .ok (.aload_n 0, 1) := by decide +kernel
theorem dX5_findRings_88 : decode cX5_findRings 88 = .ok (.iload_n 2, 1) := by decide +kernel
theorem dX5_findRings_89 : decode cX5_findRings 89 = .ok (.i2l, 1) := by decide +kernel
theorem dX5_findRings_90 : decode cX5_findRings 90 = .ok (.iload_n 3, 1) := by decide +kernel
theorem dX5_findRings_91 : decode cX5_findRings 91 = .ok (.i2l, 1) := by decide +kernel
theorem dX5_findRings_92 : decode cX5_findRings 92 = .ok (.invokestatic 38, 3) := by decide +kernel
theorem dX5_findRings_95 : decode cX5_findRings 95 = .ok (.iload_n 1, 1) := by decide +kernel
theorem dX5_findRings_96 : decode cX5_findRings 96 = .ok (.invokevirtual 93, 3) := by decide +kernel
theorem dX5_findRings_99 : decode cX5_findRings 99 = .ok (.istore_n 1, 1) := by decide +kernel
theorem dX5_findRings_100 : decode cX5_findRings 100 = .ok (.iinc 3 1, 3) := by decide +kernel
theorem dX5_findRings_103 : decode cX5_findRings 103 = .ok (.goto (-71), 3) := by decide +kernel
theorem dX5_findRings_106 : decode cX5_findRings 106 = .ok (.iinc 2 1, 3) := by decide +kernel
theorem dX5_findRings_109 : decode cX5_findRings 109 = .ok (.goto (-86), 3) := by decide +kernel
theorem dX5_findRings_112 : decode cX5_findRings 112 = .ok (.return_, 1) := by decide +kernel
theorem dX5_follow_0 : decode cX5_follow 0 = .ok (.iload_n 3, 1) := by decide +kernel
theorem dX5_follow_1 : decode cX5_follow 1 = .ok (.istore 4, 2) := by decide +kernel
theorem dX5_follow_3 : decode cX5_follow 3 = .ok (.lload_n 1, 1) := by decide +kernel
theorem dX5_follow_4 : decode cX5_follow 4 = .ok (.lstore 5, 2) := by decide +kernel
theorem dX5_follow_6 : decode cX5_follow 6 = .ok (.lload 5, 2) := by decide +kernel
theorem dX5_follow_8 : decode cX5_follow 8 = .ok (.invokestatic 97, 3) := by decide +kernel
theorem dX5_follow_11 : decode cX5_follow 11 = .ok (.istore 7, 2) := by decide +kernel
theorem dX5_follow_13 : decode cX5_follow 13 = .ok (.iload 4, 2) := by decide +kernel
theorem dX5_follow_15 : decode cX5_follow 15 = .ok (.aload_n 0, 1) := by decide +kernel
theorem dX5_follow_16 : decode cX5_follow 16 = .ok (.getfield 9, 3) := by decide +kernel
theorem dX5_follow_19 : decode cX5_follow 19 = .ok (.arraylength, 1) := by decide +kernel
theorem dX5_follow_20 : decode cX5_follow 20 = .ok (.if_icmp .gt 48, 3) := by decide +kernel
theorem dX5_follow_23 : decode cX5_follow 23 = .ok (.iload 7, 2) := by decide +kernel
theorem dX5_follow_25 : decode cX5_follow 25 = .ok (.ifCond .lt 43, 3) := by decide +kernel
theorem dX5_follow_28 : decode cX5_follow 28 = .ok (.aload_n 0, 1) := by decide +kernel
theorem dX5_follow_29 : decode cX5_follow 29 = .ok (.getfield 9, 3) := by decide +kernel
theorem dX5_follow_32 : decode cX5_follow 32 = .ok (.iload 7, 2) := by decide +kernel
theorem dX5_follow_34 : decode cX5_follow 34 = .ok (.iaload, 1) := by decide +kernel
theorem dX5_follow_35 : decode cX5_follow 35 = .ok (.ifCond .ne 33, 3) := by decide +kernel
theorem dX5_follow_38 : decode cX5_follow 38 = .ok (.iinc 4 1, 3) := by decide +kernel
theorem dX5_follow_41 : decode cX5_follow 41 = .ok (.aload_n 0, 1) := by decide +kernel
theorem dX5_follow_42 : decode cX5_follow 42 = .ok (.getfield 9, 3) := by decide +kernel
theorem dX5_follow_45 : decode cX5_follow 45 = .ok (.iload 7, 2) := by decide +kernel
theorem dX5_follow_47 : decode cX5_follow 47 = .ok (.iload 4, 2) := by decide +kernel
theorem dX5_follow_49 : decode cX5_follow 49 = .ok (.iastore, 1) := by decide +kernel
theorem dX5_follow_50 : decode cX5_follow 50 = .ok (.aload_n 0, 1) := by decide +kernel
theorem dX5_follow_51 : decode cX5_follow 51 = .ok (.lload 5, 2) := by decide +kernel
theorem dX5_follow_53 : decode cX5_follow 53 = .ok (.invokevirtual 67, 3) := by decide +kernel
theorem dX5_follow_56 : decode cX5_follow 56 = .ok (.lstore 5, 2) := by decide +kernel
theorem dX5_follow_58 : decode cX5_follow 58 = .ok (.lload 5, 2) := by decide +kernel
theorem dX5_follow_60 : decode cX5_follow 60 = .ok (.invokestatic 97, 3) := by decide +kernel
theorem dX5_follow_63 : decode cX5_follow 63 = .ok (.istore 7, 2) := by decide +kernel
theorem dX5_follow_65 : decode cX5_follow 65 = .ok (.goto (-52), 3) := by decide +kernel
theorem dX5_follow_68 : decode cX5_follow 68 = .ok (.iload 7, 2) := by decide +kernel
theorem dX5_follow_70 : decode cX5_follow 70 = .ok (.ifCond .lt 45, 3) := by decide +kernel
theorem dX5_follow_73 : decode cX5_follow 73 = .ok (.aload_n 0, 1) := by decide +kernel
theorem dX5_follow_74 : decode cX5_follow 74 = .ok (.getfield 9, 3) := by decide +kernel
theorem dX5_follow_77 : decode cX5_follow 77 = .ok (.iload 7, 2) := by decide +kernel
theorem dX5_follow_79 : decode cX5_follow 79 = .ok (.iaload, 1) := by decide +kernel
theorem dX5_follow_80 : decode cX5_follow 80 = .ok (.iload_n 3, 1) := by decide +kernel
theorem dX5_follow_81 : decode cX5_follow 81 = .ok (.if_icmp .le 34, 3) := by decide +kernel
theorem dX5_follow_84 : decode cX5_follow 84 = .ok (.aload_n 0, 1) := by decide +kernel
theorem dX5_follow_85 : decode cX5_follow 85 = .ok (.dup, 1) := by decide +kernel
theorem dX5_follow_86 : decode cX5_follow 86 = .ok (.getfield 85, 3) := by decide +kernel
theorem dX5_follow_89 : decode cX5_follow 89 = .ok (.iconst 1, 1) := by decide +kernel
theorem dX5_follow_90 : decode cX5_follow 90 = .ok (.iadd, 1) := by decide +kernel
theorem dX5_follow_91 : decode cX5_follow 91 = .ok (.putfield 85, 3) := by decide +kernel
theorem dX5_follow_94 : decode cX5_follow 94 = .ok (.aload_n 0, 1) := by decide +kernel
theorem dX5_follow_95 : decode cX5_follow 95 = .ok (.dup, 1) := by decide +kernel
theorem dX5_follow_96 : decode cX5_follow 96 = .ok (.getfield 88, 3) := by decide +kernel
theorem dX5_follow_99 : decode cX5_follow 99 = .ok (.iload 4, 2) := by decide +kernel
theorem dX5_follow_101 : decode cX5_follow 101 = .ok (.iconst 1, 1) := by decide +kernel
theorem dX5_follow_102 : decode cX5_follow 102 = .ok (.iadd, 1) := by decide +kernel
theorem dX5_follow_103 : decode cX5_follow 103 = .ok (.aload_n 0, 1) := by decide +kernel
theorem dX5_follow_104 : decode cX5_follow 104 = .ok (.getfield 9, 3) := by decide +kernel
theorem dX5_follow_107 : decode cX5_follow 107 = .ok (.iload 7, 2) := by decide +kernel
theorem dX5_follow_109 : decode cX5_follow 109 = .ok (.iaload, 1) := by decide +kernel
theorem dX5_follow_110 : decode cX5_follow 110 = .ok (.isub, 1) := by decide +kernel
theorem dX5_follow_111 : decode cX5_follow 111 = .ok (.iadd, 1) := by decide +kernel
theorem dX5_follow_112 : decode cX5_follow 112 = .ok (.putfield 88, 3) := by decide +kernel
theorem dX5_follow_115 : decode cX5_follow 115 = .ok (.iload 4, 2) := by decide +kernel
theorem dX5_follow_117 : decode cX5_follow 117 = .ok (.ireturn, 1) := by decide +kernel
theorem dX5_place_0 : decode cX5_place 0 = .ok (.lload_n 0, 1) := by decide +kernel
theorem dX5_place_1 : decode cX5_place 1 = .ok (.invokestatic 49, 3) := by decide +kernel
theorem dX5_place_4 : decode cX5_place 4 = .ok (.ldc2_w 100, 3) := by decide +kernel
theorem dX5_place_7 : decode cX5_place 7 = .ok (.ladd, 1) := by decide +kernel
theorem dX5_place_8 : decode cX5_place 8 = .ok (.lstore_n 2, 1) := by decide +kernel
theorem dX5_place_9 : decode cX5_place 9 = .ok (.lload_n 0, 1) := by decide +kernel
theorem dX5_place_10 : decode cX5_place 10 = .ok (.invokestatic 52, 3) := by decide +kernel
theorem dX5_place_13 : decode cX5_place 13 = .ok (.ldc2_w 100, 3) := by decide +kernel
theorem dX5_place_16 : decode cX5_place 16 = .ok (.ladd, 1) := by decide +kernel
theorem dX5_place_17 : decode cX5_place 17 = .ok (.lstore 4, 2) := by decide +kernel
theorem dX5_place_19 : decode cX5_place 19 = .ok (.lload_n 2, 1) := by decide +kernel
theorem dX5_place_20 : decode cX5_place 20 = .ok (.lconst 0, 1) := by decide +kernel
theorem dX5_place_21 : decode cX5_place 21 = .ok (.lcmp, 1) := by decide +kernel
theorem dX5_place_22 : decode cX5_place 22 = .ok (.ifCond .lt 27, 3) := by decide +kernel
theorem dX5_place_25 : decode cX5_place 25 = .ok (.lload_n 2, 1) := by decide +kernel
theorem dX5_place_26 : decode cX5_place 26 = .ok (.ldc2_w 102, 3) := by decide +kernel
theorem dX5_place_29 : decode cX5_place 29 = .ok (.lcmp, 1) := by decide +kernel
theorem dX5_place_30 : decode cX5_place 30 = .ok (.ifCond .ge 19, 3) := by decide +kernel
theorem dX5_place_33 : decode cX5_place 33 = .ok (.lload 4, 2) := by decide +kernel
theorem dX5_place_35 : decode cX5_place 35 = .ok (.lconst 0, 1) := by decide +kernel
theorem dX5_place_36 : decode cX5_place 36 = .ok (.lcmp, 1) := by decide +kernel
theorem dX5_place_37 : decode cX5_place 37 = .ok (.ifCond .lt 12, 3) := by decide +kernel
theorem dX5_place_40 : decode cX5_place 40 = .ok (.lload 4, 2) := by decide +kernel
theorem dX5_place_42 : decode cX5_place 42 = .ok (.ldc2_w 102, 3) := by decide +kernel
theorem dX5_place_45 : decode cX5_place 45 = .ok (.lcmp, 1) := by decide +kernel
theorem dX5_place_46 : decode cX5_place 46 = .ok (.ifCond .lt 7, 3) := by decide +kernel
theorem dX5_place_49 : decode cX5_place 49 = .ok (.iconst (-1), 1) := by decide +kernel
theorem dX5_place_50 : decode cX5_place 50 = .ok (.goto 12, 3) := by decide +kernel
theorem dX5_place_53 : decode cX5_place 53 = .ok (.lload_n 2, 1) := by decide +kernel
theorem dX5_place_54 : decode cX5_place 54 = .ok (.ldc2_w 102, 3) := by decide +kernel
theorem dX5_place_57 : decode cX5_place 57 = .ok (.lmul, 1) := by decide +kernel
theorem dX5_place_58 : decode cX5_place 58 = .ok (.lload 4, 2) := by decide +kernel
theorem dX5_place_60 : decode cX5_place 60 = .ok (.ladd, 1) := by decide +kernel
theorem dX5_place_61 : decode cX5_place 61 = .ok (.l2i, 1) := by decide +kernel
theorem dX5_place_62 : decode cX5_place 62 = .ok (.ireturn, 1) := by decide +kernel
theorem dX6_init_0 : decode cX6_init 0 = .ok (.aload_n 0, 1) := by decide +kernel
theorem dX6_init_1 : decode cX6_init 1 = .ok (.invokespecial 3, 3) := by decide +kernel
theorem dX6_init_4 : decode cX6_init 4 = .ok (.aload_n 0, 1) := by decide +kernel
theorem dX6_init_5 : decode cX6_init 5 = .ok (.aload_n 1, 1) := by decide +kernel
theorem dX6_init_6 : decode cX6_init 6 = .ok (.putfield 9, 3) := by decide +kernel
theorem dX6_init_9 : decode cX6_init 9 = .ok (.aload_n 0, 1) := by decide +kernel
theorem dX6_init_10 : decode cX6_init 10 = .ok (.aload_n 2, 1) := by decide +kernel
theorem dX6_init_11 : decode cX6_init 11 = .ok (.putfield 15, 3) := by decide +kernel
theorem dX6_init_14 : decode cX6_init 14 = .ok (.return_, 1) := by decide +kernel
theorem dX6_raised_0 : decode cX6_raised 0 = .ok (.aload_n 0, 1) := by decide +kernel
theorem dX6_raised_1 : decode cX6_raised 1 = .ok (.getfield 9, 3) := by decide +kernel
theorem dX6_raised_4 : decode cX6_raised 4 = .ok (.ldc2_w 21, 3) := by decide +kernel
theorem dX6_raised_7 : decode cX6_raised 7 = .ok (.lload 4, 2) := by decide +kernel
theorem dX6_raised_9 : decode cX6_raised 9 = .ok (.invokevirtual 23, 3) := by decide +kernel
theorem dX6_raised_12 : decode cX6_raised 12 = .ok (.lstore 6, 2) := by decide +kernel
theorem dX6_raised_14 : decode cX6_raised 14 = .ok (.aload_n 0, 1) := by decide +kernel
theorem dX6_raised_15 : decode cX6_raised 15 = .ok (.getfield 9, 3) := by decide +kernel
theorem dX6_raised_18 : decode cX6_raised 18 = .ok (.lload_n 1, 1) := by decide +kernel
theorem dX6_raised_19 : decode cX6_raised 19 = .ok (.lload 4, 2) := by decide +kernel
theorem dX6_raised_21 : decode cX6_raised 21 = .ok (.invokevirtual 23, 3) := by decide +kernel
theorem dX6_raised_24 : decode cX6_raised 24 = .ok (.lstore 8, 2) := by decide +kernel
theorem dX6_raised_26 : decode cX6_raised 26 = .ok (.iload_n 3, 1) := by decide +kernel
theorem dX6_raised_27 : decode cX6_raised 27 = .ok (.istore 10, 2) := by decide +kernel
theorem dX6_raised_29 : decode cX6_raised 29 = .ok (.iload 10, 2) := by decide +kernel
theorem dX6_raised_31 : decode cX6_raised 31 = .ok (.ifCond .le 63, 3) := by decide +kernel
theorem dX6_raised_34 : decode cX6_raised 34 = .ok (.iload 10, 2) := by decide +kernel
theorem dX6_raised_36 : decode cX6_raised 36 = .ok (.iconst 1, 1) := by decide +kernel
theorem dX6_raised_37 : decode cX6_raised 37 = .ok (.iand, 1) := by decide +kernel
theorem dX6_raised_38 : decode cX6_raised 38 = .ok (.ifCond .eq 25, 3) := by decide +kernel
theorem dX6_raised_41 : decode cX6_raised 41 = .ok (.aload_n 0, 1) := by decide +kernel
theorem dX6_raised_42 : decode cX6_raised 42 = .ok (.getfield 9, 3) := by decide +kernel
theorem dX6_raised_45 : decode cX6_raised 45 = .ok (.aload_n 0, 1) := by decide +kernel
theorem dX6_raised_46 : decode cX6_raised 46 = .ok (.getfield 9, 3) := by decide +kernel
theorem dX6_raised_49 : decode cX6_raised 49 = .ok (.lload 6, 2) := by decide +kernel
theorem dX6_raised_51 : decode cX6_raised 51 = .ok (.lload 8, 2) := by decide +kernel
theorem dX6_raised_53 : decode cX6_raised 53 = .ok (.invokevirtual 27, 3) := by decide +kernel
theorem dX6_raised_56 : decode cX6_raised 56 = .ok (.lload 4, 2) := by decide +kernel
theorem dX6_raised_58 : decode cX6_raised 58 = .ok (.invokevirtual 23, 3) := by decide +kernel
theorem dX6_raised_61 : decode cX6_raised 61 = .ok (.lstore 6, 2) := by decide +kernel
theorem dX6_raised_63 : decode cX6_raised 63 = .ok (.aload_n 0, 1) := by decide +kernel
theorem dX6_raised_64 : decode cX6_raised 64 = .ok (.getfield 9, 3) := by decide +kernel
theorem dX6_raised_67 : decode cX6_raised 67 = .ok (.aload_n 0, 1) := by decide +kernel
theorem dX6_raised_68 : decode cX6_raised 68 = .ok (.getfield 9, 3) := by decide +kernel
theorem dX6_raised_71 : decode cX6_raised 71 = .ok (.lload 8, 2) := by decide +kernel
theorem dX6_raised_73 : decode cX6_raised 73 = .ok (.lload 8, 2) := by decide +kernel
theorem dX6_raised_75 : decode cX6_raised 75 = .ok (.invokevirtual 27, 3) := by decide +kernel
theorem dX6_raised_78 : decode cX6_raised 78 = .ok (.lload 4, 2) := by decide +kernel
theorem dX6_raised_80 : decode cX6_raised 80 = .ok (.invokevirtual 23, 3) := by decide +kernel
theorem dX6_raised_83 : decode cX6_raised 83 = .ok (.lstore 8, 2) := by decide +kernel
theorem dX6_raised_85 : decode cX6_raised 85 = .ok (.iload 10, 2) := by decide +kernel
theorem dX6_raised_87 : decode cX6_raised 87 = .ok (.iconst 1, 1) := by decide +kernel
theorem dX6_raised_88 : decode cX6_raised 88 = .ok (.ishr, 1) := by decide +kernel
theorem dX6_raised_89 : decode cX6_raised 89 = .ok (.istore 10, 2) := by decide +kernel
theorem dX6_raised_91 : decode cX6_raised 91 = .ok (.goto (-62), 3) := by decide +kernel
theorem dX6_raised_94 : decode cX6_raised 94 = .ok (.lload 6, 2) := by decide +kernel
theorem dX6_raised_96 : decode cX6_raised 96 = .ok (.lreturn, 1) := by decide +kernel
theorem dX6_leastOrder_0 : decode cX6_leastOrder 0 = .ok (.aload_n 0, 1) := by decide +kernel
theorem dX6_leastOrder_1 : decode cX6_leastOrder 1 = .ok (.getfield 9, 3) := by decide +kernel
theorem dX6_leastOrder_4 : decode cX6_leastOrder 4 = .ok (.aload_n 0, 1) := by decide +kernel
theorem dX6_leastOrder_5 : decode cX6_leastOrder 5 = .ok (.getfield 9, 3) := by decide +kernel
theorem dX6_leastOrder_8 : decode cX6_leastOrder 8 = .ok (.lload_n 1, 1) := by decide +kernel
theorem dX6_leastOrder_9 : decode cX6_leastOrder 9 = .ok (.lload_n 3, 1) := by decide +kernel
theorem dX6_leastOrder_10 : decode cX6_leastOrder 10 = .ok (.invokevirtual 30, 3) := by decide +kernel
theorem dX6_leastOrder_13 : decode cX6_leastOrder 13 = .ok (.invokevirtual 33, 3) := by decide +kernel
theorem dX6_leastOrder_16 : decode cX6_leastOrder 16 = .ok (.lconst 1, 1) := by decide +kernel
theorem dX6_leastOrder_17 : decode cX6_leastOrder 17 = .ok (.lcmp, 1) := by decide +kernel
theorem dX6_leastOrder_18 : decode cX6_leastOrder 18 = .ok (.ifCond .eq 6, 3) := by decide +kernel
theorem dX6_leastOrder_21 : decode cX6_leastOrder 21 = .ok (.bipush (-4), 2) := by decide +kernel
theorem dX6_leastOrder_23 : decode cX6_leastOrder 23 = .ok (.ireturn, 1) := by decide +kernel
theorem dX6_leastOrder_24 : decode cX6_leastOrder 24 = .ok (.aload_n 0, 1) := by decide +kernel
theorem dX6_leastOrder_25 : decode cX6_leastOrder 25 = .ok (.getfield 9, 3) := by decide +kernel
theorem dX6_leastOrder_28 : decode cX6_leastOrder 28 = .ok (.ldc2_w 21, 3) := by decide +kernel
theorem dX6_leastOrder_31 : decode cX6_leastOrder 31 = .ok (.lload_n 3, 1) := by decide +kernel
theorem dX6_leastOrder_32 : decode cX6_leastOrder 32 = .ok (.invokevirtual 23, 3) := by decide +kernel
theorem dX6_leastOrder_35 : decode cX6_leastOrder 35 = .ok (.lstore 6, 2) := by decide +kernel
theorem dX6_leastOrder_37 : decode cX6_leastOrder 37 = .ok (.iload 5, 2) := by decide +kernel
theorem dX6_leastOrder_39 : decode cX6_leastOrder 39 = .ok (.istore 8, 2) := by decide +kernel
theorem dX6_leastOrder_41 : decode cX6_leastOrder 41 = .ok (.iload 5, 2) := by decide +kernel
theorem dX6_leastOrder_43 : decode cX6_leastOrder 43 = .ok (.istore 9, 2) := by decide +kernel
theorem dX6_leastOrder_45 : decode cX6_leastOrder 45 = .ok (.iconst 2, 1) := by decide +kernel
theorem dX6_leastOrder_46 : decode cX6_leastOrder 46 = .ok (.istore 10, 2) := by decide +kernel
theorem dX6_leastOrder_48 : decode cX6_leastOrder 48 = .ok (.iload 10, 2) := by decide +kernel
theorem dX6_leastOrder_50 : decode cX6_leastOrder 50 = .ok (.iload 9, 2) := by decide +kernel
theorem dX6_leastOrder_52 : decode cX6_leastOrder 52 = .ok (.if_icmp .gt 57, 3) := by decide +kernel
theorem dX6_leastOrder_55 : decode cX6_leastOrder 55 = .ok (.iload 9, 2) := by decide +kernel
theorem dX6_leastOrder_57 : decode cX6_leastOrder 57 = .ok (.iconst 1, 1) := by decide +kernel
theorem dX6_leastOrder_58 : decode cX6_leastOrder 58 = .ok (.if_icmp .le 45, 3) := by decide +kernel
theorem dX6_leastOrder_61 : decode cX6_leastOrder 61 = .ok (.iload 9, 2) := by decide +kernel
theorem dX6_leastOrder_63 : decode cX6_leastOrder 63 = .ok (.iload 10, 2) := by decide +kernel
theorem dX6_leastOrder_65 : decode cX6_leastOrder 65 = .ok (.irem, 1) := by decide +kernel
theorem dX6_leastOrder_66 : decode cX6_leastOrder 66 = .ok (.ifCond .ne 37, 3) := by decide +kernel
theorem dX6_leastOrder_69 : decode cX6_leastOrder 69 = .ok (.iload 9, 2) := by decide +kernel
theorem dX6_leastOrder_71 : decode cX6_leastOrder 71 = .ok (.iload 10, 2) := by decide +kernel
theorem dX6_leastOrder_73 : decode cX6_leastOrder 73 = .ok (.idiv, 1) := by decide +kernel
theorem dX6_leastOrder_74 : decode cX6_leastOrder 74 = .ok (.istore 9, 2) := by decide +kernel
theorem dX6_leastOrder_76 : decode cX6_leastOrder 76 = .ok (.aload_n 0, 1) := by decide +kernel
theorem dX6_leastOrder_77 : decode cX6_leastOrder 77 = .ok (.lload_n 1, 1) := by decide +kernel
theorem dX6_leastOrder_78 : decode cX6_leastOrder 78 = .ok (.iload 8, 2) := by decide +kernel
theorem dX6_leastOrder_80 : decode cX6_leastOrder 80 = .ok (.iload 10, 2) := by decide +kernel
theorem dX6_leastOrder_82 : decode cX6_leastOrder 82 = .ok (.idiv, 1) := by decide +kernel
theorem dX6_leastOrder_83 : decode cX6_leastOrder 83 = .ok (.lload_n 3, 1) := by decide +kernel
theorem dX6_leastOrder_84 : decode cX6_leastOrder 84 = .ok (.invokevirtual 37, 3) := by decide +kernel
theorem dX6_leastOrder_87 : decode cX6_leastOrder 87 = .ok (.lload 6, 2) := by decide +kernel
theorem dX6_leastOrder_89 : decode cX6_leastOrder 89 = .ok (.lcmp, 1) := by decide +kernel
theorem dX6_leastOrder_90 : decode cX6_leastOrder 90 = .ok (.ifCond .ne (-35), 3) := by decide +kernel
theorem dX6_leastOrder_93 : decode cX6_leastOrder 93 = .ok (.iload 8, 2) := by decide +kernel
theorem dX6_leastOrder_95 : decode cX6_leastOrder 95 = .ok (.iload 10, 2) := by decide +kernel
theorem dX6_leastOrder_97 : decode cX6_leastOrder 97 = .ok (.idiv, 1) := by decide +kernel
theorem dX6_leastOrder_98 : decode cX6_leastOrder 98 = .ok (.istore 8, 2) := by decide +kernel
theorem dX6_leastOrder_100 : decode cX6_leastOrder 100 = .ok (.goto (-45), 3) := by decide +kernel
theorem dX6_leastOrder_103 : decode cX6_leastOrder 103 = .ok (.iinc 10 1, 3) := by decide +kernel
theorem dX6_leastOrder_106 : decode cX6_leastOrder 106 = .ok (.goto (-58), 3) := by decide +kernel
theorem dX6_leastOrder_109 : decode cX6_leastOrder 109 = .ok (.iload 8, 2) := by decide +kernel
theorem dX6_leastOrder_111 : decode cX6_leastOrder 111 = .ok (.ireturn, 1) := by decide +kernel
theorem dX6_findInverse_0 : decode cX6_findInverse 0 = .ok (.aload_n 0, 1) := by decide +kernel
theorem dX6_findInverse_1 : decode cX6_findInverse 1 = .ok (.getfield 15, 3) := by decide +kernel
theorem dX6_findInverse_4 : decode cX6_findInverse 4 = .ok (.lload_n 1, 1) := by decide +kernel
theorem dX6_findInverse_5 : decode cX6_findInverse 5 = .ok (.lload_n 3, 1) := by decide +kernel
theorem dX6_findInverse_6 : decode cX6_findInverse 6 = .ok (.invokevirtual 41, 3) := by decide +kernel
theorem dX6_findInverse_9 : decode cX6_findInverse 9 = .ok (.aload_n 0, 1) := by decide +kernel
theorem dX6_findInverse_10 : decode cX6_findInverse 10 = .ok (.getfield 9, 3) := by decide +kernel
theorem dX6_findInverse_13 : decode cX6_findInverse 13 = .ok (.aload_n 0, 1) := by decide +kernel
theorem dX6_findInverse_14 : decode cX6_findInverse 14 = .ok (.getfield 15, 3) := by decide +kernel
theorem dX6_findInverse_17 : decode cX6_findInverse 17 = .ok (.getfield 47, 3) := by decide +kernel
theorem dX6_findInverse_20 : decode cX6_findInverse 20 = .ok (.invokevirtual 33, 3) := by decide +kernel
theorem dX6_findInverse_23 : decode cX6_findInverse 23 = .ok (.lconst 1, 1) := by decide +kernel
theorem dX6_findInverse_24 : decode cX6_findInverse 24 = .ok (.lcmp, 1) := by decide +kernel
theorem dX6_findInverse_25 : decode cX6_findInverse 25 = .ok (.ifCond .eq 5, 3) := by decide +kernel
theorem dX6_findInverse_28 : decode cX6_findInverse 28 = .ok (.iconst 0, 1) := by decide +kernel
theorem dX6_findInverse_29 : decode cX6_findInverse 29 = .ok (.ireturn, 1) := by decide +kernel
theorem dX6_findInverse_30 : decode cX6_findInverse 30 = .ok (.aload_n 0, 1) := by decide +kernel
theorem dX6_findInverse_31 : decode cX6_findInverse 31 = .ok (.aload_n 0, 1) := by decide +kernel
theorem dX6_findInverse_32 : decode cX6_findInverse 32 = .ok (.getfield 9, 3) := by decide +kernel
theorem dX6_findInverse_35 : decode cX6_findInverse 35 = .ok (.aload_n 0, 1) := by decide +kernel
theorem dX6_findInverse_36 : decode cX6_findInverse 36 = .ok (.getfield 9, 3) := by decide +kernel
theorem dX6_findInverse_39 : decode cX6_findInverse 39 = .ok (.aload_n 0, 1) := by decide +kernel
theorem dX6_findInverse_40 : decode cX6_findInverse 40 = .ok (.getfield 15, 3) := by decide +kernel
theorem dX6_findInverse_43 : decode cX6_findInverse 43 = .ok (.getfield 50, 3) := by decide +kernel
theorem dX6_findInverse_46 : decode cX6_findInverse 46 = .ok (.aload_n 0, 1) := by decide +kernel
theorem dX6_findInverse_47 : decode cX6_findInverse 47 = .ok (.getfield 9, 3) := by decide +kernel
theorem dX6_findInverse_50 : decode cX6_findInverse 50 = .ok (.aload_n 0, 1) := by decide +kernel
theorem dX6_findInverse_51 : decode cX6_findInverse 51 = .ok (.getfield 15, 3) := by decide +kernel
theorem dX6_findInverse_54 : decode cX6_findInverse 54 = .ok (.getfield 47, 3) := by decide +kernel
theorem dX6_findInverse_57 : decode cX6_findInverse 57 = .ok (.invokevirtual 53, 3) := by decide +kernel
theorem dX6_findInverse_60 : decode cX6_findInverse 60 = .ok (.invokevirtual 27, 3) := by decide +kernel
theorem dX6_findInverse_63 : decode cX6_findInverse 63 = .ok (.lload_n 3, 1) := by decide +kernel
theorem dX6_findInverse_64 : decode cX6_findInverse 64 = .ok (.invokevirtual 23, 3) := by decide +kernel
theorem dX6_findInverse_67 : decode cX6_findInverse 67 = .ok (.putfield 56, 3) := by decide +kernel
theorem dX6_findInverse_70 : decode cX6_findInverse 70 = .ok (.iconst 1, 1) := by decide +kernel
theorem dX6_findInverse_71 : decode cX6_findInverse 71 = .ok (.ireturn, 1) := by decide +kernel
theorem dX6_findRoots_0 : decode cX6_findRoots 0 = .ok (.iconst 0, 1) := by decide +kernel
theorem dX6_findRoots_1 : decode cX6_findRoots 1 = .ok (.istore 6, 2) := by decide +kernel
theorem dX6_findRoots_3 : decode cX6_findRoots 3 = .ok (.bipush (-20), 2) := by decide +kernel
theorem dX6_findRoots_5 : decode cX6_findRoots 5 = .ok (.istore 7, 2) := by decide +kernel
theorem dX6_findRoots_7 : decode cX6_findRoots 7 = .ok (.iload 7, 2) := by decide +kernel
theorem dX6_findRoots_9 : decode cX6_findRoots 9 = .ok (.bipush 20, 2) := by decide +kernel
theorem dX6_findRoots_11 : decode cX6_findRoots 11 = .ok (.if_icmp .gt 94, 3) := by decide +kernel
theorem dX6_findRoots_14 : decode cX6_findRoots 14 = .ok (.bipush (-20), 2) := by decide +kernel
theorem dX6_findRoots_16 : decode cX6_findRoots 16 = .ok (.istore 8, 2) := by decide +kernel
theorem dX6_findRoots_18 : decode cX6_findRoots 18 = .ok (.iload 8, 2) := by decide +kernel
theorem dX6_findRoots_20 : decode cX6_findRoots 20 = .ok (.bipush 20, 2) := by decide +kernel
theorem dX6_findRoots_22 : decode cX6_findRoots 22 = .ok (.if_icmp .gt 77, 3) := by decide +kernel
theorem dX6_findRoots_25 : decode cX6_findRoots 25 = .ok (.iload 7, 2) := by decide +kernel
theorem dX6_findRoots_27 : decode cX6_findRoots 27 = .ok (.i2l, 1) := by decide +kernel
theorem dX6_findRoots_28 : decode cX6_findRoots 28 = .ok (.iload 8, 2) := by decide +kernel
theorem dX6_findRoots_30 : decode cX6_findRoots 30 = .ok (.i2l, 1) := by decide +kernel
theorem dX6_findRoots_31 : decode cX6_findRoots 31 = .ok (.invokestatic 59, 3) := by decide +kernel
theorem dX6_findRoots_34 : decode cX6_findRoots 34 = .ok (.lstore 9, 2) := by decide +kernel
theorem dX6_findRoots_36 : decode cX6_findRoots 36 = .ok (.aload_n 0, 1) := by decide +kernel
theorem dX6_findRoots_37 : decode cX6_findRoots 37 = .ok (.getfield 9, 3) := by decide +kernel
theorem dX6_findRoots_40 : decode cX6_findRoots 40 = .ok (.lload_n 3, 1) := by decide +kernel
theorem dX6_findRoots_41 : decode cX6_findRoots 41 = .ok (.aload_n 0, 1) := by decide +kernel
theorem dX6_findRoots_42 : decode cX6_findRoots 42 = .ok (.getfield 9, 3) := by decide +kernel
theorem dX6_findRoots_45 : decode cX6_findRoots 45 = .ok (.lload 9, 2) := by decide +kernel
theorem dX6_findRoots_47 : decode cX6_findRoots 47 = .ok (.lload 9, 2) := by decide +kernel
theorem dX6_findRoots_49 : decode cX6_findRoots 49 = .ok (.invokevirtual 27, 3) := by decide +kernel
theorem dX6_findRoots_52 : decode cX6_findRoots 52 = .ok (.lload_n 1, 1) := by decide +kernel
theorem dX6_findRoots_53 : decode cX6_findRoots 53 = .ok (.invokestatic 62, 3) := by decide +kernel
theorem dX6_findRoots_56 : decode cX6_findRoots 56 = .ok (.invokevirtual 65, 3) := by decide +kernel
theorem dX6_findRoots_59 : decode cX6_findRoots 59 = .ok (.ifCond .eq 34, 3) := by decide +kernel
theorem dX6_findRoots_62 : decode cX6_findRoots 62 = .ok (.aload_n 0, 1) := by decide +kernel
theorem dX6_findRoots_63 : decode cX6_findRoots 63 = .ok (.getfield 9, 3) := by decide +kernel
theorem dX6_findRoots_66 : decode cX6_findRoots 66 = .ok (.lload 9, 2) := by decide +kernel
theorem dX6_findRoots_68 : decode cX6_findRoots 68 = .ok (.lload_n 3, 1) := by decide +kernel
theorem dX6_findRoots_69 : decode cX6_findRoots 69 = .ok (.invokevirtual 69, 3) := by decide +kernel
theorem dX6_findRoots_72 : decode cX6_findRoots 72 = .ok (.lconst 0, 1) := by decide +kernel
theorem dX6_findRoots_73 : decode cX6_findRoots 73 = .ok (.lcmp, 1) := by decide +kernel
theorem dX6_findRoots_74 : decode cX6_findRoots 74 = .ok (.ifCond .ne 19, 3) := by decide +kernel
theorem dX6_findRoots_77 : decode cX6_findRoots 77 = .ok (.iload 6, 2) := by decide +kernel
theorem dX6_findRoots_79 : decode cX6_findRoots 79 = .ok (.iload 5, 2) := by decide +kernel
theorem dX6_findRoots_81 : decode cX6_findRoots 81 = .ok (.if_icmp .ne 9, 3) := by decide +kernel
theorem dX6_findRoots_84 : decode cX6_findRoots 84 = .ok (.aload_n 0, 1) := by decide +kernel
theorem dX6_findRoots_85 : decode cX6_findRoots 85 = .ok (.lload 9, 2) := by decide +kernel
theorem dX6_findRoots_87 : decode cX6_findRoots 87 = .ok (.putfield 56, 3) := by decide +kernel
theorem dX6_findRoots_90 : decode cX6_findRoots 90 = .ok (.iinc 6 1, 3) := by decide +kernel
theorem dX6_findRoots_93 : decode cX6_findRoots 93 = .ok (.iinc 8 1, 3) := by decide +kernel
theorem dX6_findRoots_96 : decode cX6_findRoots 96 = .ok (.goto (-78), 3) := by decide +kernel
theorem dX6_findRoots_99 : decode cX6_findRoots 99 = .ok (.iinc 7 1, 3) := by decide +kernel
theorem dX6_findRoots_102 : decode cX6_findRoots 102 = .ok (.goto (-95), 3) := by decide +kernel
theorem dX6_findRoots_105 : decode cX6_findRoots 105 = .ok (.iload 6, 2) := by decide +kernel
theorem dX6_findRoots_107 : decode cX6_findRoots 107 = .ok (.ireturn, 1) := by decide +kernel
theorem dX7_init_0 : decode cX7_init 0 = .ok (.aload_n 0, 1) := by decide +kernel
theorem dX7_init_1 : decode cX7_init 1 = .ok (.invokespecial 1, 3) := by decide +kernel
theorem dX7_init_4 : decode cX7_init 4 = .ok (.aload_n 0, 1) := by decide +kernel
theorem dX7_init_5 : decode cX7_init 5 = .ok (.new 7, 3) := by decide +kernel
theorem dX7_init_8 : decode cX7_init 8 = .ok (.dup, 1) := by decide +kernel
theorem dX7_init_9 : decode cX7_init 9 = .ok (.invokespecial 9, 3) := by decide +kernel
theorem dX7_init_12 : decode cX7_init 12 = .ok (.putfield 10, 3) := by decide +kernel
theorem dX7_init_15 : decode cX7_init 15 = .ok (.aload_n 0, 1) := by decide +kernel
theorem dX7_init_16 : decode cX7_init 16 = .ok (.bipush 8, 2) := by decide +kernel
theorem dX7_init_18 : decode cX7_init 18 = .ok (.newarray .long, 2) := by decide +kernel
theorem dX7_init_20 : decode cX7_init 20 = .ok (.putfield 16, 3) := by decide +kernel
theorem dX7_init_23 : decode cX7_init 23 = .ok (.aload_n 0, 1) := by decide +kernel
theorem dX7_init_24 : decode cX7_init 24 = .ok (.new 20, 3) := by decide +kernel
theorem dX7_init_27 : decode cX7_init 27 = .ok (.dup, 1) := by decide +kernel
theorem dX7_init_28 : decode cX7_init 28 = .ok (.aload_n 0, 1) := by decide +kernel
theorem dX7_init_29 : decode cX7_init 29 = .ok (.getfield 10, 3) := by decide +kernel
theorem dX7_init_32 : decode cX7_init 32 = .ok (.invokespecial 22, 3) := by decide +kernel
theorem dX7_init_35 : decode cX7_init 35 = .ok (.putfield 25, 3) := by decide +kernel
theorem dX7_init_38 : decode cX7_init 38 = .ok (.aload_n 0, 1) := by decide +kernel
theorem dX7_init_39 : decode cX7_init 39 = .ok (.new 29, 3) := by decide +kernel
theorem dX7_init_42 : decode cX7_init 42 = .ok (.dup, 1) := by decide +kernel
theorem dX7_init_43 : decode cX7_init 43 = .ok (.aload_n 0, 1) := by decide +kernel
theorem dX7_init_44 : decode cX7_init 44 = .ok (.getfield 10, 3) := by decide +kernel
theorem dX7_init_47 : decode cX7_init 47 = .ok (.invokespecial 31, 3) := by decide +kernel
theorem dX7_init_50 : decode cX7_init 50 = .ok (.putfield 32, 3) := by decide +kernel
theorem dX7_init_53 : decode cX7_init 53 = .ok (.aload_n 0, 1) := by decide +kernel
theorem dX7_init_54 : decode cX7_init 54 = .ok (.new 36, 3) := by decide +kernel
theorem dX7_init_57 : decode cX7_init 57 = .ok (.dup, 1) := by decide +kernel
theorem dX7_init_58 : decode cX7_init 58 = .ok (.aload_n 0, 1) := by decide +kernel
theorem dX7_init_59 : decode cX7_init 59 = .ok (.getfield 10, 3) := by decide +kernel
theorem dX7_init_62 : decode cX7_init 62 = .ok (.aload_n 0, 1) := by decide +kernel
theorem dX7_init_63 : decode cX7_init 63 = .ok (.getfield 25, 3) := by decide +kernel
theorem dX7_init_66 : decode cX7_init 66 = .ok (.invokespecial 38, 3) := by decide +kernel
theorem dX7_init_69 : decode cX7_init 69 = .ok (.putfield 41, 3) := by decide +kernel
theorem dX7_init_72 : decode cX7_init 72 = .ok (.aload_n 0, 1) := by decide +kernel
theorem dX7_init_73 : decode cX7_init 73 = .ok (.new 45, 3) := by decide +kernel
theorem dX7_init_76 : decode cX7_init 76 = .ok (.dup, 1) := by decide +kernel
theorem dX7_init_77 : decode cX7_init 77 = .ok (.aload_n 0, 1) := by decide +kernel
theorem dX7_init_78 : decode cX7_init 78 = .ok (.getfield 10, 3) := by decide +kernel
theorem dX7_init_81 : decode cX7_init 81 = .ok (.invokespecial 47, 3) := by decide +kernel
theorem dX7_init_84 : decode cX7_init 84 = .ok (.putfield 48, 3) := by decide +kernel
theorem dX7_init_87 : decode cX7_init 87 = .ok (.aload_n 0, 1) := by decide +kernel
theorem dX7_init_88 : decode cX7_init 88 = .ok (.new 52, 3) := by decide +kernel
theorem dX7_init_91 : decode cX7_init 91 = .ok (.dup, 1) := by decide +kernel
theorem dX7_init_92 : decode cX7_init 92 = .ok (.invokespecial 54, 3) := by decide +kernel
theorem dX7_init_95 : decode cX7_init 95 = .ok (.putfield 55, 3) := by decide +kernel
theorem dX7_init_98 : decode cX7_init 98 = .ok (.aload_n 0, 1) := by decide +kernel
theorem dX7_init_99 : decode cX7_init 99 = .ok (.new 52, 3) := by decide +kernel
theorem dX7_init_102 : decode cX7_init 102 = .ok (.dup, 1) := by decide +kernel
theorem dX7_init_103 : decode cX7_init 103 = .ok (.invokespecial 54, 3) := by decide +kernel
theorem dX7_init_106 : decode cX7_init 106 = .ok (.putfield 59, 3) := by decide +kernel
theorem dX7_init_109 : decode cX7_init 109 = .ok (.aload_n 0, 1) := by decide +kernel
theorem dX7_init_110 : decode cX7_init 110 = .ok (.new 62, 3) := by decide +kernel
theorem dX7_init_113 : decode cX7_init 113 = .ok (.dup, 1) := by decide +kernel
theorem dX7_init_114 : decode cX7_init 114 = .ok (.aload_n 0, 1) := by decide +kernel
theorem dX7_init_115 : decode cX7_init 115 = .ok (.getfield 10, 3) := by decide +kernel
theorem dX7_init_118 : decode cX7_init 118 = .ok (.invokespecial 64, 3) := by decide +kernel
theorem dX7_init_121 : decode cX7_init 121 = .ok (.putfield 65, 3) := by decide +kernel
theorem dX7_init_124 : decode cX7_init 124 = .ok (.return_, 1) := by decide +kernel
theorem dX7_kind_0 : decode cX7_kind 0 = .ok (.iload_n 1, 1) := by decide +kernel
theorem dX7_kind_1 : decode cX7_kind 1 = .ok (.ifCond .lt 8, 3) := by decide +kernel
theorem dX7_kind_4 : decode cX7_kind 4 = .ok (.iload_n 1, 1) := by decide +kernel
theorem dX7_kind_5 : decode cX7_kind 5 = .ok (.iconst 5, 1) := by decide +kernel
theorem dX7_kind_6 : decode cX7_kind 6 = .ok (.if_icmp .lt 5, 3) := by decide +kernel
theorem dX7_kind_9 : decode cX7_kind 9 = .ok (.iconst (-1), 1) := by decide +kernel
theorem dX7_kind_10 : decode cX7_kind 10 = .ok (.ireturn, 1) := by decide +kernel
theorem dX7_kind_11 : decode cX7_kind 11 = .ok (.aload_n 0, 1) := by decide +kernel
theorem dX7_kind_12 : decode cX7_kind 12 = .ok (.getfield 10, 3) := by decide +kernel
theorem dX7_kind_15 : decode cX7_kind 15 = .ok (.iload_n 1, 1) := by decide +kernel
theorem dX7_kind_16 : decode cX7_kind 16 = .ok (.invokevirtual 69, 3) := by decide +kernel
theorem dX7_kind_19 : decode cX7_kind 19 = .ok (.aload_n 0, 1) := by decide +kernel
theorem dX7_kind_20 : decode cX7_kind 20 = .ok (.getfield 16, 3) := by decide +kernel
theorem dX7_kind_23 : decode cX7_kind 23 = .ok (.lconst 0, 1) := by decide +kernel
theorem dX7_kind_24 : decode cX7_kind 24 = .ok (.invokestatic 73, 3) := by decide +kernel
theorem dX7_kind_27 : decode cX7_kind 27 = .ok (.aload_n 0, 1) := by decide +kernel
theorem dX7_kind_28 : decode cX7_kind 28 = .ok (.getfield 10, 3) := by decide +kernel
theorem dX7_kind_31 : decode cX7_kind 31 = .ok (.getfield 79, 3) := by decide +kernel
theorem dX7_kind_34 : decode cX7_kind 34 = .ok (.ireturn, 1) := by decide +kernel
theorem dX7_set_0 : decode cX7_set 0 = .ok (.iload_n 1, 1) := by decide +kernel
theorem dX7_set_1 : decode cX7_set 1 = .ok (.invokestatic 83, 3) := by decide +kernel
theorem dX7_set_4 : decode cX7_set 4 = .ok (.ifCond .eq 19, 3) := by decide +kernel
theorem dX7_set_7 : decode cX7_set 7 = .ok (.iload_n 2, 1) := by decide +kernel
theorem dX7_set_8 : decode cX7_set 8 = .ok (.i2l, 1) := by decide +kernel
theorem dX7_set_9 : decode cX7_set 9 = .ok (.invokestatic 87, 3) := by decide +kernel
theorem dX7_set_12 : decode cX7_set 12 = .ok (.ifCond .eq 11, 3) := by decide +kernel
theorem dX7_set_15 : decode cX7_set 15 = .ok (.iload_n 3, 1) := by decide +kernel
theorem dX7_set_16 : decode cX7_set 16 = .ok (.i2l, 1) := by decide +kernel
theorem dX7_set_17 : decode cX7_set 17 = .ok (.invokestatic 87, 3) := by decide +kernel
theorem dX7_set_20 : decode cX7_set 20 = .ok (.ifCond .ne 5, 3) := by decide +kernel
theorem dX7_set_23 : decode cX7_set 23 = .ok (.iconst (-1), 1) := by decide +kernel
theorem dX7_set_24 : decode cX7_set 24 = .ok (.ireturn, 1) := by decide +kernel
theorem dX7_set_25 : decode cX7_set 25 = .ok (.aload_n 0, 1) := by decide +kernel
theorem dX7_set_26 : decode cX7_set 26 = .ok (.getfield 16, 3) := by decide +kernel
theorem dX7_set_29 : decode cX7_set 29 = .ok (.iload_n 1, 1) := by decide +kernel
theorem dX7_set_30 : decode cX7_set 30 = .ok (.iload_n 2, 1) := by decide +kernel
theorem dX7_set_31 : decode cX7_set 31 = .ok (.i2l, 1) := by decide +kernel
theorem dX7_set_32 : decode cX7_set 32 = .ok (.iload_n 3, 1) := by decide +kernel
theorem dX7_set_33 : decode cX7_set 33 = .ok (.i2l, 1) := by decide +kernel
theorem dX7_set_34 : decode cX7_set 34 = .ok (.invokestatic 91, 3) := by decide +kernel
theorem dX7_set_37 : decode cX7_set 37 = .ok (.lastore, 1) := by decide +kernel
theorem dX7_set_38 : decode cX7_set 38 = .ok (.iconst 0, 1) := by decide +kernel
theorem dX7_set_39 : decode cX7_set 39 = .ok (.ireturn, 1) := by decide +kernel
theorem dX7_get_0 : decode cX7_get 0 = .ok (.iload_n 1, 1) := by decide +kernel
theorem dX7_get_1 : decode cX7_get 1 = .ok (.invokestatic 83, 3) := by decide +kernel
theorem dX7_get_4 : decode cX7_get 4 = .ok (.ifCond .eq 12, 3) := by decide +kernel
theorem dX7_get_7 : decode cX7_get 7 = .ok (.iload_n 2, 1) := by decide +kernel
theorem dX7_get_8 : decode cX7_get 8 = .ok (.ifCond .lt 8, 3) := by decide +kernel
theorem dX7_get_11 : decode cX7_get 11 = .ok (.iload_n 2, 1) := by decide +kernel
theorem dX7_get_12 : decode cX7_get 12 = .ok (.iconst 1, 1) := by decide +kernel
theorem dX7_get_13 : decode cX7_get 13 = .ok (.if_icmp .le 6, 3) := by decide +kernel
theorem dX7_get_16 : decode cX7_get 16 = .ok (.ldc 95, 2) := by decide +kernel
theorem dX7_get_18 : decode cX7_get 18 = .ok (.ireturn, 1) := by decide +kernel
theorem dX7_get_19 : decode cX7_get 19 = .ok (.iload_n 2, 1) := by decide +kernel
theorem dX7_get_20 : decode cX7_get 20 = .ok (.ifCond .ne 15, 3) := by decide +kernel
theorem dX7_get_23 : decode cX7_get 23 = .ok (.aload_n 0, 1) := by decide +kernel
theorem dX7_get_24 : decode cX7_get 24 = .ok (.getfield 16, 3) := by decide +kernel
theorem dX7_get_27 : decode cX7_get 27 = .ok (.iload_n 1, 1) := by decide +kernel
theorem dX7_get_28 : decode cX7_get 28 = .ok (.laload, 1) := by decide +kernel
theorem dX7_get_29 : decode cX7_get 29 = .ok (.invokestatic 96, 3) := by decide +kernel
theorem dX7_get_32 : decode cX7_get 32 = .ok (.goto 12, 3) := by decide +kernel
theorem dX7_get_35 : decode cX7_get 35 = .ok (.aload_n 0, 1) := by decide +kernel
theorem dX7_get_36 : decode cX7_get 36 = .ok (.getfield 16, 3) := by decide +kernel
theorem dX7_get_39 : decode cX7_get 39 = .ok (.iload_n 1, 1) := by decide +kernel
theorem dX7_get_40 : decode cX7_get 40 = .ok (.laload, 1) := by decide +kernel
theorem dX7_get_41 : decode cX7_get 41 = .ok (.invokestatic 100, 3) := by decide +kernel
theorem dX7_get_44 : decode cX7_get 44 = .ok (.l2i, 1) := by decide +kernel
theorem dX7_get_45 : decode cX7_get 45 = .ok (.ireturn, 1) := by decide +kernel
theorem dX7_size_0 : decode cX7_size 0 = .ok (.iload_n 1, 1) := by decide +kernel
theorem dX7_size_1 : decode cX7_size 1 = .ok (.invokestatic 83, 3) := by decide +kernel
theorem dX7_size_4 : decode cX7_size 4 = .ok (.ifCond .eq 19, 3) := by decide +kernel
theorem dX7_size_7 : decode cX7_size 7 = .ok (.aload_n 0, 1) := by decide +kernel
theorem dX7_size_8 : decode cX7_size 8 = .ok (.getfield 10, 3) := by decide +kernel
theorem dX7_size_11 : decode cX7_size 11 = .ok (.aload_n 0, 1) := by decide +kernel
theorem dX7_size_12 : decode cX7_size 12 = .ok (.getfield 16, 3) := by decide +kernel
theorem dX7_size_15 : decode cX7_size 15 = .ok (.iload_n 1, 1) := by decide +kernel
theorem dX7_size_16 : decode cX7_size 16 = .ok (.laload, 1) := by decide +kernel
theorem dX7_size_17 : decode cX7_size 17 = .ok (.invokevirtual 103, 3) := by decide +kernel
theorem dX7_size_20 : decode cX7_size 20 = .ok (.goto 6, 3) := by decide +kernel
theorem dX7_size_23 : decode cX7_size 23 = .ok (.ldc2_w 106, 3) := by decide +kernel
theorem dX7_size_26 : decode cX7_size 26 = .ok (.lreturn, 1) := by decide +kernel
theorem dX7_reckon_0 : decode cX7_reckon 0 = .ok (.iload_n 1, 1) := by decide +kernel
theorem dX7_reckon_1 : decode cX7_reckon 1 = .ok (.invokestatic 83, 3) := by decide +kernel
theorem dX7_reckon_4 : decode cX7_reckon 4 = .ok (.ifCond .eq 27, 3) := by decide +kernel
theorem dX7_reckon_7 : decode cX7_reckon 7 = .ok (.iload_n 2, 1) := by decide +kernel
theorem dX7_reckon_8 : decode cX7_reckon 8 = .ok (.ifCond .lt 23, 3) := by decide +kernel
theorem dX7_reckon_11 : decode cX7_reckon 11 = .ok (.iload_n 2, 1) := by decide +kernel
theorem dX7_reckon_12 : decode cX7_reckon 12 = .ok (.iconst 5, 1) := by decide +kernel
theorem dX7_reckon_13 : decode cX7_reckon 13 = .ok (.if_icmp .gt 18, 3) := by decide +kernel
theorem dX7_reckon_16 : decode cX7_reckon 16 = .ok (.iload_n 3, 1) := by decide +kernel
theorem dX7_reckon_17 : decode cX7_reckon 17 = .ok (.invokestatic 83, 3) := by decide +kernel
theorem dX7_reckon_20 : decode cX7_reckon 20 = .ok (.ifCond .eq 11, 3) := by decide +kernel
theorem dX7_reckon_23 : decode cX7_reckon 23 = .ok (.iload 4, 2) := by decide +kernel
theorem dX7_reckon_25 : decode cX7_reckon 25 = .ok (.invokestatic 83, 3) := by decide +kernel
theorem dX7_reckon_28 : decode cX7_reckon 28 = .ok (.ifCond .ne 5, 3) := by decide +kernel
theorem dX7_reckon_31 : decode cX7_reckon 31 = .ok (.iconst (-1), 1) := by decide +kernel
theorem dX7_reckon_32 : decode cX7_reckon 32 = .ok (.ireturn, 1) := by decide +kernel
theorem dX7_reckon_33 : decode cX7_reckon 33 = .ok (.iload_n 2, 1) := by decide +kernel
theorem dX7_reckon_34 : decode cX7_reckon 34 = .ok (.iconst 3, 1) := by decide +kernel
theorem dX7_reckon_35 : decode cX7_reckon 35 = .ok (.if_icmp .eq 8, 3) := by decide +kernel
theorem dX7_reckon_38 : decode cX7_reckon 38 = .ok (.iload_n 2, 1) := by decide +kernel
theorem dX7_reckon_39 : decode cX7_reckon 39 = .ok (.iconst 4, 1) := by decide +kernel
theorem dX7_reckon_40 : decode cX7_reckon 40 = .ok (.if_icmp .ne 18, 3) := by decide +kernel
theorem dX7_reckon_43 : decode cX7_reckon 43 = .ok (.aload_n 0, 1) := by decide +kernel
theorem dX7_reckon_44 : decode cX7_reckon 44 = .ok (.getfield 16, 3) := by decide +kernel
theorem dX7_reckon_47 : decode cX7_reckon 47 = .ok (.iload 4, 2) := by decide +kernel
theorem dX7_reckon_49 : decode cX7_reckon 49 = .ok (.laload, 1) := by decide +kernel
theorem dX7_reckon_50 : decode cX7_reckon 50 = .ok (.lconst 0, 1) := by decide +kernel
theorem dX7_reckon_51 : decode cX7_reckon 51 = .ok (.lcmp, 1) := by decide +kernel
theorem dX7_reckon_52 : decode cX7_reckon 52 = .ok (.ifCond .ne 6, 3) := by decide +kernel
theorem dX7_reckon_55 : decode cX7_reckon 55 = .ok (.bipush (-2), 2) := by decide +kernel
theorem dX7_reckon_57 : decode cX7_reckon 57 = .ok (.ireturn, 1) := by decide +kernel
theorem dX7_reckon_58 : decode cX7_reckon 58 = .ok (.aload_n 0, 1) := by decide +kernel
theorem dX7_reckon_59 : decode cX7_reckon 59 = .ok (.iload_n 1, 1) := by decide +kernel
theorem dX7_reckon_60 : decode cX7_reckon 60 = .ok (.aload_n 0, 1) := by decide +kernel
theorem dX7_reckon_61 : decode cX7_reckon 61 = .ok (.iload_n 2, 1) := by decide +kernel
theorem dX7_reckon_62 : decode cX7_reckon 62 = .ok (.aload_n 0, 1) := by decide +kernel
theorem dX7_reckon_63 : decode cX7_reckon 63 = .ok (.getfield 16, 3) := by decide +kernel
theorem dX7_reckon_66 : decode cX7_reckon 66 = .ok (.iload_n 3, 1) := by decide +kernel
theorem dX7_reckon_67 : decode cX7_reckon 67 = .ok (.laload, 1) := by decide +kernel
theorem dX7_reckon_68 : decode cX7_reckon 68 = .ok (.aload_n 0, 1) := by decide +kernel
theorem dX7_reckon_69 : decode cX7_reckon 69 = .ok (.getfield 16, 3) := by decide +kernel
theorem dX7_reckon_72 : decode cX7_reckon 72 = .ok (.iload 4, 2) := by decide +kernel
theorem dX7_reckon_74 : decode cX7_reckon 74 = .ok (.laload, 1) := by decide +kernel
theorem dX7_reckon_75 : decode cX7_reckon 75 = .ok (.invokevirtual 108, 3) := by decide +kernel
theorem dX7_reckon_78 : decode cX7_reckon 78 = .ok (.invokevirtual 112, 3) := by decide +kernel
theorem dX7_reckon_81 : decode cX7_reckon 81 = .ok (.ireturn, 1) := by decide +kernel
theorem dX7_reckoned_0 : decode cX7_reckoned 0 = .ok (.iload_n 1, 1) := by decide +kernel
theorem dX7_reckoned_1 : decode cX7_reckoned 1 = .ok (.tableswitch 82 0 4 #[35, 42, 49, 60, 71], 35) := by decide +kernel
theorem dX7_reckoned_36 : decode cX7_reckoned 36 = .ok (.lload_n 2, 1) := by decide +kernel
theorem dX7_reckoned_37 : decode cX7_reckoned 37 = .ok (.lload 4, 2) := by decide +kernel
theorem dX7_reckoned_39 : decode cX7_reckoned 39 = .ok (.invokestatic 116, 3) := by decide +kernel
theorem dX7_reckoned_42 : decode cX7_reckoned 42 = .ok (.lreturn, 1) := by decide +kernel
theorem dX7_reckoned_43 : decode cX7_reckoned 43 = .ok (.lload_n 2, 1) := by decide +kernel
theorem dX7_reckoned_44 : decode cX7_reckoned 44 = .ok (.lload 4, 2) := by decide +kernel
theorem dX7_reckoned_46 : decode cX7_reckoned 46 = .ok (.invokestatic 119, 3) := by decide +kernel
theorem dX7_reckoned_49 : decode cX7_reckoned 49 = .ok (.lreturn, 1) := by decide +kernel
theorem dX7_reckoned_50 : decode cX7_reckoned 50 = .ok (.aload_n 0, 1) := by decide +kernel
theorem dX7_reckoned_51 : decode cX7_reckoned 51 = .ok (.getfield 10, 3) := by decide +kernel
theorem dX7_reckoned_54 : decode cX7_reckoned 54 = .ok (.lload_n 2, 1) := by decide +kernel
theorem dX7_reckoned_55 : decode cX7_reckoned 55 = .ok (.lload 4, 2) := by decide +kernel
theorem dX7_reckoned_57 : decode cX7_reckoned 57 = .ok (.invokevirtual 122, 3) := by decide +kernel
theorem dX7_reckoned_60 : decode cX7_reckoned 60 = .ok (.lreturn, 1) := by decide +kernel
theorem dX7_reckoned_61 : decode cX7_reckoned 61 = .ok (.aload_n 0, 1) := by decide +kernel
theorem dX7_reckoned_62 : decode cX7_reckoned 62 = .ok (.getfield 10, 3) := by decide +kernel
theorem dX7_reckoned_65 : decode cX7_reckoned 65 = .ok (.lload_n 2, 1) := by decide +kernel
theorem dX7_reckoned_66 : decode cX7_reckoned 66 = .ok (.lload 4, 2) := by decide +kernel
theorem dX7_reckoned_68 : decode cX7_reckoned 68 = .ok (.invokevirtual 125, 3) := by decide +kernel
theorem dX7_reckoned_71 : decode cX7_reckoned 71 = .ok (.lreturn, 1) := by decide +kernel
theorem dX7_reckoned_72 : decode cX7_reckoned 72 = .ok (.aload_n 0, 1) := by decide +kernel
theorem dX7_reckoned_73 : decode cX7_reckoned 73 = .ok (.getfield 10, 3) := by decide +kernel
theorem dX7_reckoned_76 : decode cX7_reckoned 76 = .ok (.lload_n 2, 1) := by decide +kernel
theorem dX7_reckoned_77 : decode cX7_reckoned 77 = .ok (.lload 4, 2) := by decide +kernel
theorem dX7_reckoned_79 : decode cX7_reckoned 79 = .ok (.invokevirtual 128, 3) := by decide +kernel
theorem dX7_reckoned_82 : decode cX7_reckoned 82 = .ok (.lreturn, 1) := by decide +kernel
theorem dX7_reckoned_83 : decode cX7_reckoned 83 = .ok (.aload_n 0, 1) := by decide +kernel
theorem dX7_reckoned_84 : decode cX7_reckoned 84 = .ok (.getfield 10, 3) := by decide +kernel
theorem dX7_reckoned_87 : decode cX7_reckoned 87 = .ok (.lload_n 2, 1) := by decide +kernel
theorem dX7_reckoned_88 : decode cX7_reckoned 88 = .ok (.lload 4, 2) := by decide +kernel
theorem dX7_reckoned_90 : decode cX7_reckoned 90 = .ok (.invokevirtual 131, 3) := by decide +kernel
theorem dX7_reckoned_93 : decode cX7_reckoned 93 = .ok (.lreturn, 1) := by decide +kernel
theorem dX7_turn_0 : decode cX7_turn 0 = .ok (.iload_n 1, 1) := by decide +kernel
theorem dX7_turn_1 : decode cX7_turn 1 = .ok (.invokestatic 83, 3) := by decide +kernel
theorem dX7_turn_4 : decode cX7_turn 4 = .ok (.ifCond .eq 19, 3) := by decide +kernel
theorem dX7_turn_7 : decode cX7_turn 7 = .ok (.iload_n 2, 1) := by decide +kernel
theorem dX7_turn_8 : decode cX7_turn 8 = .ok (.ifCond .lt 15, 3) := by decide +kernel
theorem dX7_turn_11 : decode cX7_turn 11 = .ok (.iload_n 2, 1) := by decide +kernel
theorem dX7_turn_12 : decode cX7_turn 12 = .ok (.iconst 2, 1) := by decide +kernel
theorem dX7_turn_13 : decode cX7_turn 13 = .ok (.if_icmp .gt 10, 3) := by decide +kernel
theorem dX7_turn_16 : decode cX7_turn 16 = .ok (.iload_n 3, 1) := by decide +kernel
theorem dX7_turn_17 : decode cX7_turn 17 = .ok (.invokestatic 83, 3) := by decide +kernel
theorem dX7_turn_20 : decode cX7_turn 20 = .ok (.ifCond .ne 5, 3) := by decide +kernel
theorem dX7_turn_23 : decode cX7_turn 23 = .ok (.iconst (-1), 1) := by decide +kernel
theorem dX7_turn_24 : decode cX7_turn 24 = .ok (.ireturn, 1) := by decide +kernel
theorem dX7_turn_25 : decode cX7_turn 25 = .ok (.aload_n 0, 1) := by decide +kernel
theorem dX7_turn_26 : decode cX7_turn 26 = .ok (.getfield 16, 3) := by decide +kernel
theorem dX7_turn_29 : decode cX7_turn 29 = .ok (.iload_n 3, 1) := by decide +kernel
theorem dX7_turn_30 : decode cX7_turn 30 = .ok (.laload, 1) := by decide +kernel
theorem dX7_turn_31 : decode cX7_turn 31 = .ok (.lstore 4, 2) := by decide +kernel
theorem dX7_turn_33 : decode cX7_turn 33 = .ok (.iload_n 2, 1) := by decide +kernel
theorem dX7_turn_34 : decode cX7_turn 34 = .ok (.ifCond .ne 18, 3) := by decide +kernel
theorem dX7_turn_37 : decode cX7_turn 37 = .ok (.aload_n 0, 1) := by decide +kernel
theorem dX7_turn_38 : decode cX7_turn 38 = .ok (.iload_n 1, 1) := by decide +kernel
theorem dX7_turn_39 : decode cX7_turn 39 = .ok (.aload_n 0, 1) := by decide +kernel
theorem dX7_turn_40 : decode cX7_turn 40 = .ok (.getfield 10, 3) := by decide +kernel
theorem dX7_turn_43 : decode cX7_turn 43 = .ok (.lload 4, 2) := by decide +kernel
theorem dX7_turn_45 : decode cX7_turn 45 = .ok (.invokevirtual 134, 3) := by decide +kernel
theorem dX7_turn_48 : decode cX7_turn 48 = .ok (.invokevirtual 112, 3) := by decide +kernel
theorem dX7_turn_51 : decode cX7_turn 51 = .ok (.ireturn, 1) := by decide +kernel
theorem dX7_turn_52 : decode cX7_turn 52 = .ok (.aload_n 0, 1) := by decide +kernel
theorem dX7_turn_53 : decode cX7_turn 53 = .ok (.iload_n 1, 1) := by decide +kernel
theorem dX7_turn_54 : decode cX7_turn 54 = .ok (.iload_n 2, 1) := by decide +kernel
theorem dX7_turn_55 : decode cX7_turn 55 = .ok (.iconst 1, 1) := by decide +kernel
theorem dX7_turn_56 : decode cX7_turn 56 = .ok (.if_icmp .ne 15, 3) := by decide +kernel
theorem dX7_turn_59 : decode cX7_turn 59 = .ok (.aload_n 0, 1) := by decide +kernel
theorem dX7_turn_60 : decode cX7_turn 60 = .ok (.getfield 10, 3) := by decide +kernel
theorem dX7_turn_63 : decode cX7_turn 63 = .ok (.lload 4, 2) := by decide +kernel
theorem dX7_turn_65 : decode cX7_turn 65 = .ok (.invokevirtual 137, 3) := by decide +kernel
theorem dX7_turn_68 : decode cX7_turn 68 = .ok (.goto 13, 3) := by decide +kernel
theorem dX7_turn_71 : decode cX7_turn 71 = .ok (.aload_n 0, 1) := by decide +kernel
theorem dX7_turn_72 : decode cX7_turn 72 = .ok (.getfield 10, 3) := by decide +kernel
theorem dX7_turn_75 : decode cX7_turn 75 = .ok (.lload 4, 2) := by decide +kernel
theorem dX7_turn_77 : decode cX7_turn 77 = .ok (.lconst 1, 1) := by decide +kernel
theorem dX7_turn_78 : decode cX7_turn 78 = .ok (.invokevirtual 122, 3) := by decide +kernel
theorem dX7_turn_81 : decode cX7_turn 81 = .ok (.invokevirtual 112, 3) := by decide +kernel
theorem dX7_turn_84 : decode cX7_turn 84 = .ok (.ireturn, 1) := by decide +kernel
theorem dX7_makes_0 : decode cX7_makes 0 = .ok (.iload_n 1, 1) := by decide +kernel
theorem dX7_makes_1 : decode cX7_makes 1 = .ok (.invokestatic 83, 3) := by decide +kernel
theorem dX7_makes_4 : decode cX7_makes 4 = .ok (.ifCond .eq 25, 3) := by decide +kernel
theorem dX7_makes_7 : decode cX7_makes 7 = .ok (.iload_n 2, 1) := by decide +kernel
theorem dX7_makes_8 : decode cX7_makes 8 = .ok (.invokestatic 83, 3) := by decide +kernel
theorem dX7_makes_11 : decode cX7_makes 11 = .ok (.ifCond .eq 18, 3) := by decide +kernel
theorem dX7_makes_14 : decode cX7_makes 14 = .ok (.iload_n 3, 1) := by decide +kernel
theorem dX7_makes_15 : decode cX7_makes 15 = .ok (.invokestatic 83, 3) := by decide +kernel
theorem dX7_makes_18 : decode cX7_makes 18 = .ok (.ifCond .eq 11, 3) := by decide +kernel
theorem dX7_makes_21 : decode cX7_makes 21 = .ok (.iload 4, 2) := by decide +kernel
theorem dX7_makes_23 : decode cX7_makes 23 = .ok (.invokestatic 83, 3) := by decide +kernel
theorem dX7_makes_26 : decode cX7_makes 26 = .ok (.ifCond .ne 5, 3) := by decide +kernel
theorem dX7_makes_29 : decode cX7_makes 29 = .ok (.iconst (-1), 1) := by decide +kernel
theorem dX7_makes_30 : decode cX7_makes 30 = .ok (.ireturn, 1) := by decide +kernel
theorem dX7_makes_31 : decode cX7_makes 31 = .ok (.aload_n 0, 1) := by decide +kernel
theorem dX7_makes_32 : decode cX7_makes 32 = .ok (.getfield 16, 3) := by decide +kernel
theorem dX7_makes_35 : decode cX7_makes 35 = .ok (.iload_n 3, 1) := by decide +kernel
theorem dX7_makes_36 : decode cX7_makes 36 = .ok (.laload, 1) := by decide +kernel
theorem dX7_makes_37 : decode cX7_makes 37 = .ok (.lconst 0, 1) := by decide +kernel
theorem dX7_makes_38 : decode cX7_makes 38 = .ok (.lcmp, 1) := by decide +kernel
theorem dX7_makes_39 : decode cX7_makes 39 = .ok (.ifCond .ne 18, 3) := by decide +kernel
theorem dX7_makes_42 : decode cX7_makes 42 = .ok (.aload_n 0, 1) := by decide +kernel
theorem dX7_makes_43 : decode cX7_makes 43 = .ok (.getfield 16, 3) := by decide +kernel
theorem dX7_makes_46 : decode cX7_makes 46 = .ok (.iload 4, 2) := by decide +kernel
theorem dX7_makes_48 : decode cX7_makes 48 = .ok (.laload, 1) := by decide +kernel
theorem dX7_makes_49 : decode cX7_makes 49 = .ok (.lconst 0, 1) := by decide +kernel
theorem dX7_makes_50 : decode cX7_makes 50 = .ok (.lcmp, 1) := by decide +kernel
theorem dX7_makes_51 : decode cX7_makes 51 = .ok (.ifCond .ne 6, 3) := by decide +kernel
theorem dX7_makes_54 : decode cX7_makes 54 = .ok (.bipush (-2), 2) := by decide +kernel
theorem dX7_makes_56 : decode cX7_makes 56 = .ok (.ireturn, 1) := by decide +kernel
theorem dX7_makes_57 : decode cX7_makes 57 = .ok (.aload_n 0, 1) := by decide +kernel
theorem dX7_makes_58 : decode cX7_makes 58 = .ok (.getfield 25, 3) := by decide +kernel
theorem dX7_makes_61 : decode cX7_makes 61 = .ok (.aload_n 0, 1) := by decide +kernel
theorem dX7_makes_62 : decode cX7_makes 62 = .ok (.getfield 16, 3) := by decide +kernel
theorem dX7_makes_65 : decode cX7_makes 65 = .ok (.iload_n 3, 1) := by decide +kernel
theorem dX7_makes_66 : decode cX7_makes 66 = .ok (.laload, 1) := by decide +kernel
theorem dX7_makes_67 : decode cX7_makes 67 = .ok (.aload_n 0, 1) := by decide +kernel
theorem dX7_makes_68 : decode cX7_makes 68 = .ok (.getfield 16, 3) := by decide +kernel
theorem dX7_makes_71 : decode cX7_makes 71 = .ok (.iload 4, 2) := by decide +kernel
theorem dX7_makes_73 : decode cX7_makes 73 = .ok (.laload, 1) := by decide +kernel
theorem dX7_makes_74 : decode cX7_makes 74 = .ok (.invokevirtual 140, 3) := by decide +kernel
theorem dX7_makes_77 : decode cX7_makes 77 = .ok (.aload_n 0, 1) := by decide +kernel
theorem dX7_makes_78 : decode cX7_makes 78 = .ok (.getfield 25, 3) := by decide +kernel
theorem dX7_makes_81 : decode cX7_makes 81 = .ok (.getfield 144, 3) := by decide +kernel
theorem dX7_makes_84 : decode cX7_makes 84 = .ok (.invokestatic 148, 3) := by decide +kernel
theorem dX7_makes_87 : decode cX7_makes 87 = .ok (.ifCond .eq 16, 3) := by decide +kernel
theorem dX7_makes_90 : decode cX7_makes 90 = .ok (.aload_n 0, 1) := by decide +kernel
theorem dX7_makes_91 : decode cX7_makes 91 = .ok (.getfield 25, 3) := by decide +kernel
theorem dX7_makes_94 : decode cX7_makes 94 = .ok (.getfield 151, 3) := by decide +kernel
theorem dX7_makes_97 : decode cX7_makes 97 = .ok (.invokestatic 148, 3) := by decide +kernel
theorem dX7_makes_100 : decode cX7_makes 100 = .ok (.ifCond .ne 6, 3) := by decide +kernel
theorem dX7_makes_103 : decode cX7_makes 103 = .ok (.bipush (-3), 2) := by decide +kernel
theorem dX7_makes_105 : decode cX7_makes 105 = .ok (.ireturn, 1) := by decide +kernel
theorem dX7_makes_106 : decode cX7_makes 106 = .ok (.aload_n 0, 1) := by decide +kernel
theorem dX7_makes_107 : decode cX7_makes 107 = .ok (.getfield 16, 3) := by decide +kernel
theorem dX7_makes_110 : decode cX7_makes 110 = .ok (.iload_n 1, 1) := by decide +kernel
theorem dX7_makes_111 : decode cX7_makes 111 = .ok (.aload_n 0, 1) := by decide +kernel
theorem dX7_makes_112 : decode cX7_makes 112 = .ok (.getfield 25, 3) := by decide +kernel
theorem dX7_makes_115 : decode cX7_makes 115 = .ok (.getfield 144, 3) := by decide +kernel
theorem dX7_makes_118 : decode cX7_makes 118 = .ok (.lastore, 1) := by decide +kernel
theorem dX7_makes_119 : decode cX7_makes 119 = .ok (.aload_n 0, 1) := by decide +kernel
theorem dX7_makes_120 : decode cX7_makes 120 = .ok (.getfield 16, 3) := by decide +kernel
theorem dX7_makes_123 : decode cX7_makes 123 = .ok (.iload_n 2, 1) := by decide +kernel
theorem dX7_makes_124 : decode cX7_makes 124 = .ok (.aload_n 0, 1) := by decide +kernel
theorem dX7_makes_125 : decode cX7_makes 125 = .ok (.getfield 25, 3) := by decide +kernel
theorem dX7_makes_128 : decode cX7_makes 128 = .ok (.getfield 151, 3) := by decide +kernel
theorem dX7_makes_131 : decode cX7_makes 131 = .ok (.lastore, 1) := by decide +kernel
theorem dX7_makes_132 : decode cX7_makes 132 = .ok (.iconst 0, 1) := by decide +kernel
theorem dX7_makes_133 : decode cX7_makes 133 = .ok (.ireturn, 1) := by decide +kernel
theorem dX7_like_0 : decode cX7_like 0 = .ok (.iload_n 1, 1) := by decide +kernel
theorem dX7_like_1 : decode cX7_like 1 = .ok (.invokestatic 83, 3) := by decide +kernel
theorem dX7_like_4 : decode cX7_like 4 = .ok (.ifCond .eq 10, 3) := by decide +kernel
theorem dX7_like_7 : decode cX7_like 7 = .ok (.iload_n 2, 1) := by decide +kernel
theorem dX7_like_8 : decode cX7_like 8 = .ok (.invokestatic 83, 3) := by decide +kernel
theorem dX7_like_11 : decode cX7_like 11 = .ok (.ifCond .ne 5, 3) := by decide +kernel
theorem dX7_like_14 : decode cX7_like 14 = .ok (.iconst (-1), 1) := by decide +kernel
theorem dX7_like_15 : decode cX7_like 15 = .ok (.ireturn, 1) := by decide +kernel
theorem dX7_like_16 : decode cX7_like 16 = .ok (.aload_n 0, 1) := by decide +kernel
theorem dX7_like_17 : decode cX7_like 17 = .ok (.getfield 10, 3) := by decide +kernel
theorem dX7_like_20 : decode cX7_like 20 = .ok (.aload_n 0, 1) := by decide +kernel
theorem dX7_like_21 : decode cX7_like 21 = .ok (.getfield 16, 3) := by decide +kernel
theorem dX7_like_24 : decode cX7_like 24 = .ok (.iload_n 1, 1) := by decide +kernel
theorem dX7_like_25 : decode cX7_like 25 = .ok (.laload, 1) := by decide +kernel
theorem dX7_like_26 : decode cX7_like 26 = .ok (.invokevirtual 137, 3) := by decide +kernel
theorem dX7_like_29 : decode cX7_like 29 = .ok (.aload_n 0, 1) := by decide +kernel
theorem dX7_like_30 : decode cX7_like 30 = .ok (.getfield 10, 3) := by decide +kernel
theorem dX7_like_33 : decode cX7_like 33 = .ok (.aload_n 0, 1) := by decide +kernel
theorem dX7_like_34 : decode cX7_like 34 = .ok (.getfield 16, 3) := by decide +kernel
theorem dX7_like_37 : decode cX7_like 37 = .ok (.iload_n 2, 1) := by decide +kernel
theorem dX7_like_38 : decode cX7_like 38 = .ok (.laload, 1) := by decide +kernel
theorem dX7_like_39 : decode cX7_like 39 = .ok (.invokevirtual 137, 3) := by decide +kernel
theorem dX7_like_42 : decode cX7_like 42 = .ok (.lcmp, 1) := by decide +kernel
theorem dX7_like_43 : decode cX7_like 43 = .ok (.ifCond .ne 7, 3) := by decide +kernel
theorem dX7_like_46 : decode cX7_like 46 = .ok (.iconst 1, 1) := by decide +kernel
theorem dX7_like_47 : decode cX7_like 47 = .ok (.goto 4, 3) := by decide +kernel
theorem dX7_like_50 : decode cX7_like 50 = .ok (.iconst 0, 1) := by decide +kernel
theorem dX7_like_51 : decode cX7_like 51 = .ok (.ireturn, 1) := by decide +kernel
theorem dX7_parts_0 : decode cX7_parts 0 = .ok (.iload_n 1, 1) := by decide +kernel
theorem dX7_parts_1 : decode cX7_parts 1 = .ok (.invokestatic 83, 3) := by decide +kernel
theorem dX7_parts_4 : decode cX7_parts 4 = .ok (.ifCond .ne 5, 3) := by decide +kernel
theorem dX7_parts_7 : decode cX7_parts 7 = .ok (.iconst (-1), 1) := by decide +kernel
theorem dX7_parts_8 : decode cX7_parts 8 = .ok (.ireturn, 1) := by decide +kernel
theorem dX7_parts_9 : decode cX7_parts 9 = .ok (.aload_n 0, 1) := by decide +kernel
theorem dX7_parts_10 : decode cX7_parts 10 = .ok (.getfield 16, 3) := by decide +kernel
theorem dX7_parts_13 : decode cX7_parts 13 = .ok (.iload_n 1, 1) := by decide +kernel
theorem dX7_parts_14 : decode cX7_parts 14 = .ok (.laload, 1) := by decide +kernel
theorem dX7_parts_15 : decode cX7_parts 15 = .ok (.lconst 0, 1) := by decide +kernel
theorem dX7_parts_16 : decode cX7_parts 16 = .ok (.lcmp, 1) := by decide +kernel
theorem dX7_parts_17 : decode cX7_parts 17 = .ok (.ifCond .ne 6, 3) := by decide +kernel
theorem dX7_parts_20 : decode cX7_parts 20 = .ok (.bipush (-2), 2) := by decide +kernel
theorem dX7_parts_22 : decode cX7_parts 22 = .ok (.ireturn, 1) := by decide +kernel
theorem dX7_parts_23 : decode cX7_parts 23 = .ok (.aload_n 0, 1) := by decide +kernel
theorem dX7_parts_24 : decode cX7_parts 24 = .ok (.getfield 32, 3) := by decide +kernel
theorem dX7_parts_27 : decode cX7_parts 27 = .ok (.aload_n 0, 1) := by decide +kernel
theorem dX7_parts_28 : decode cX7_parts 28 = .ok (.getfield 16, 3) := by decide +kernel
theorem dX7_parts_31 : decode cX7_parts 31 = .ok (.iload_n 1, 1) := by decide +kernel
theorem dX7_parts_32 : decode cX7_parts 32 = .ok (.laload, 1) := by decide +kernel
theorem dX7_parts_33 : decode cX7_parts 33 = .ok (.invokevirtual 154, 3) := by decide +kernel
theorem dX7_parts_36 : decode cX7_parts 36 = .ok (.aload_n 0, 1) := by decide +kernel
theorem dX7_parts_37 : decode cX7_parts 37 = .ok (.getfield 32, 3) := by decide +kernel
theorem dX7_parts_40 : decode cX7_parts 40 = .ok (.getfield 157, 3) := by decide +kernel
theorem dX7_parts_43 : decode cX7_parts 43 = .ok (.ireturn, 1) := by decide +kernel
theorem dX7_part_0 : decode cX7_part 0 = .ok (.iload_n 1, 1) := by decide +kernel
theorem dX7_part_1 : decode cX7_part 1 = .ok (.invokestatic 83, 3) := by decide +kernel
theorem dX7_part_4 : decode cX7_part 4 = .ok (.ifCond .eq 14, 3) := by decide +kernel
theorem dX7_part_7 : decode cX7_part 7 = .ok (.iload_n 2, 1) := by decide +kernel
theorem dX7_part_8 : decode cX7_part 8 = .ok (.invokestatic 83, 3) := by decide +kernel
theorem dX7_part_11 : decode cX7_part 11 = .ok (.ifCond .eq 7, 3) := by decide +kernel
theorem dX7_part_14 : decode cX7_part 14 = .ok (.iload_n 3, 1) := by decide +kernel
theorem dX7_part_15 : decode cX7_part 15 = .ok (.ifCond .ge 5, 3) := by decide +kernel
theorem dX7_part_18 : decode cX7_part 18 = .ok (.iconst (-1), 1) := by decide +kernel
theorem dX7_part_19 : decode cX7_part 19 = .ok (.ireturn, 1) := by decide +kernel
theorem dX7_part_20 : decode cX7_part 20 = .ok (.aload_n 0, 1) := by decide +kernel
theorem dX7_part_21 : decode cX7_part 21 = .ok (.getfield 16, 3) := by decide +kernel
theorem dX7_part_24 : decode cX7_part 24 = .ok (.iload_n 2, 1) := by decide +kernel
theorem dX7_part_25 : decode cX7_part 25 = .ok (.laload, 1) := by decide +kernel
theorem dX7_part_26 : decode cX7_part 26 = .ok (.lconst 0, 1) := by decide +kernel
theorem dX7_part_27 : decode cX7_part 27 = .ok (.lcmp, 1) := by decide +kernel
theorem dX7_part_28 : decode cX7_part 28 = .ok (.ifCond .ne 6, 3) := by decide +kernel
theorem dX7_part_31 : decode cX7_part 31 = .ok (.bipush (-2), 2) := by decide +kernel
theorem dX7_part_33 : decode cX7_part 33 = .ok (.ireturn, 1) := by decide +kernel
theorem dX7_part_34 : decode cX7_part 34 = .ok (.aload_n 0, 1) := by decide +kernel
theorem dX7_part_35 : decode cX7_part 35 = .ok (.getfield 32, 3) := by decide +kernel
theorem dX7_part_38 : decode cX7_part 38 = .ok (.aload_n 0, 1) := by decide +kernel
theorem dX7_part_39 : decode cX7_part 39 = .ok (.getfield 16, 3) := by decide +kernel
theorem dX7_part_42 : decode cX7_part 42 = .ok (.iload_n 2, 1) := by decide +kernel
theorem dX7_part_43 : decode cX7_part 43 = .ok (.laload, 1) := by decide +kernel
theorem dX7_part_44 : decode cX7_part 44 = .ok (.invokevirtual 154, 3) := by decide +kernel
theorem dX7_part_47 : decode cX7_part 47 = .ok (.iload_n 3, 1) := by decide +kernel
theorem dX7_part_48 : decode cX7_part 48 = .ok (.aload_n 0, 1) := by decide +kernel
theorem dX7_part_49 : decode cX7_part 49 = .ok (.getfield 32, 3) := by decide +kernel
theorem dX7_part_52 : decode cX7_part 52 = .ok (.getfield 157, 3) := by decide +kernel
theorem dX7_part_55 : decode cX7_part 55 = .ok (.if_icmp .le 6, 3) := by decide +kernel
theorem dX7_part_58 : decode cX7_part 58 = .ok (.bipush (-4), 2) := by decide +kernel
theorem dX7_part_60 : decode cX7_part 60 = .ok (.ireturn, 1) := by decide +kernel
theorem dX7_part_61 : decode cX7_part 61 = .ok (.aload_n 0, 1) := by decide +kernel
theorem dX7_part_62 : decode cX7_part 62 = .ok (.iload_n 1, 1) := by decide +kernel
theorem dX7_part_63 : decode cX7_part 63 = .ok (.iload_n 3, 1) := by decide +kernel
theorem dX7_part_64 : decode cX7_part 64 = .ok (.aload_n 0, 1) := by decide +kernel
theorem dX7_part_65 : decode cX7_part 65 = .ok (.getfield 32, 3) := by decide +kernel
theorem dX7_part_68 : decode cX7_part 68 = .ok (.getfield 157, 3) := by decide +kernel
theorem dX7_part_71 : decode cX7_part 71 = .ok (.if_icmp .ne 13, 3) := by decide +kernel
theorem dX7_part_74 : decode cX7_part 74 = .ok (.aload_n 0, 1) := by decide +kernel
theorem dX7_part_75 : decode cX7_part 75 = .ok (.getfield 32, 3) := by decide +kernel
theorem dX7_part_78 : decode cX7_part 78 = .ok (.getfield 160, 3) := by decide +kernel
theorem dX7_part_81 : decode cX7_part 81 = .ok (.goto 11, 3) := by decide +kernel
theorem dX7_part_84 : decode cX7_part 84 = .ok (.aload_n 0, 1) := by decide +kernel
theorem dX7_part_85 : decode cX7_part 85 = .ok (.getfield 32, 3) := by decide +kernel
theorem dX7_part_88 : decode cX7_part 88 = .ok (.iload_n 3, 1) := by decide +kernel
theorem dX7_part_89 : decode cX7_part 89 = .ok (.invokevirtual 163, 3) := by decide +kernel
theorem dX7_part_92 : decode cX7_part 92 = .ok (.invokevirtual 112, 3) := by decide +kernel
theorem dX7_part_95 : decode cX7_part 95 = .ok (.ireturn, 1) := by decide +kernel
theorem dX7_ofSize_0 : decode cX7_ofSize 0 = .ok (.iload_n 1, 1) := by decide +kernel
theorem dX7_ofSize_1 : decode cX7_ofSize 1 = .ok (.ifCond .lt 9, 3) := by decide +kernel
theorem dX7_ofSize_4 : decode cX7_ofSize 4 = .ok (.iload_n 1, 1) := by decide +kernel
theorem dX7_ofSize_5 : decode cX7_ofSize 5 = .ok (.ldc 167, 2) := by decide +kernel
theorem dX7_ofSize_7 : decode cX7_ofSize 7 = .ok (.if_icmp .le 5, 3) := by decide +kernel
theorem dX7_ofSize_10 : decode cX7_ofSize 10 = .ok (.iconst (-1), 1) := by decide +kernel
theorem dX7_ofSize_11 : decode cX7_ofSize 11 = .ok (.ireturn, 1) := by decide +kernel
theorem dX7_ofSize_12 : decode cX7_ofSize 12 = .ok (.aload_n 0, 1) := by decide +kernel
theorem dX7_ofSize_13 : decode cX7_ofSize 13 = .ok (.getfield 10, 3) := by decide +kernel
theorem dX7_ofSize_16 : decode cX7_ofSize 16 = .ok (.iload_n 1, 1) := by decide +kernel
theorem dX7_ofSize_17 : decode cX7_ofSize 17 = .ok (.i2l, 1) := by decide +kernel
theorem dX7_ofSize_18 : decode cX7_ofSize 18 = .ok (.invokevirtual 168, 3) := by decide +kernel
theorem dX7_ofSize_21 : decode cX7_ofSize 21 = .ok (.aload_n 0, 1) := by decide +kernel
theorem dX7_ofSize_22 : decode cX7_ofSize 22 = .ok (.getfield 10, 3) := by decide +kernel
theorem dX7_ofSize_25 : decode cX7_ofSize 25 = .ok (.iload_n 1, 1) := by decide +kernel
theorem dX7_ofSize_26 : decode cX7_ofSize 26 = .ok (.iconst 1, 1) := by decide +kernel
theorem dX7_ofSize_27 : decode cX7_ofSize 27 = .ok (.isub, 1) := by decide +kernel
theorem dX7_ofSize_28 : decode cX7_ofSize 28 = .ok (.i2l, 1) := by decide +kernel
theorem dX7_ofSize_29 : decode cX7_ofSize 29 = .ok (.invokevirtual 168, 3) := by decide +kernel
theorem dX7_ofSize_32 : decode cX7_ofSize 32 = .ok (.lsub, 1) := by decide +kernel
theorem dX7_ofSize_33 : decode cX7_ofSize 33 = .ok (.l2i, 1) := by decide +kernel
theorem dX7_ofSize_34 : decode cX7_ofSize 34 = .ok (.ireturn, 1) := by decide +kernel
theorem dX7_within_0 : decode cX7_within 0 = .ok (.iload_n 1, 1) := by decide +kernel
theorem dX7_within_1 : decode cX7_within 1 = .ok (.ifCond .lt 9, 3) := by decide +kernel
theorem dX7_within_4 : decode cX7_within 4 = .ok (.iload_n 1, 1) := by decide +kernel
theorem dX7_within_5 : decode cX7_within 5 = .ok (.ldc 171, 2) := by decide +kernel
theorem dX7_within_7 : decode cX7_within 7 = .ok (.if_icmp .le 5, 3) := by decide +kernel
theorem dX7_within_10 : decode cX7_within 10 = .ok (.iconst (-1), 1) := by decide +kernel
theorem dX7_within_11 : decode cX7_within 11 = .ok (.ireturn, 1) := by decide +kernel
theorem dX7_within_12 : decode cX7_within 12 = .ok (.aload_n 0, 1) := by decide +kernel
theorem dX7_within_13 : decode cX7_within 13 = .ok (.getfield 10, 3) := by decide +kernel
theorem dX7_within_16 : decode cX7_within 16 = .ok (.iload_n 1, 1) := by decide +kernel
theorem dX7_within_17 : decode cX7_within 17 = .ok (.i2l, 1) := by decide +kernel
theorem dX7_within_18 : decode cX7_within 18 = .ok (.invokevirtual 168, 3) := by decide +kernel
theorem dX7_within_21 : decode cX7_within 21 = .ok (.l2i, 1) := by decide +kernel
theorem dX7_within_22 : decode cX7_within 22 = .ok (.ireturn, 1) := by decide +kernel
theorem dX7_power_0 : decode cX7_power 0 = .ok (.iload_n 1, 1) := by decide +kernel
theorem dX7_power_1 : decode cX7_power 1 = .ok (.invokestatic 83, 3) := by decide +kernel
theorem dX7_power_4 : decode cX7_power 4 = .ok (.ifCond .eq 28, 3) := by decide +kernel
theorem dX7_power_7 : decode cX7_power 7 = .ok (.iload_n 2, 1) := by decide +kernel
theorem dX7_power_8 : decode cX7_power 8 = .ok (.invokestatic 83, 3) := by decide +kernel
theorem dX7_power_11 : decode cX7_power 11 = .ok (.ifCond .eq 21, 3) := by decide +kernel
theorem dX7_power_14 : decode cX7_power 14 = .ok (.iload_n 3, 1) := by decide +kernel
theorem dX7_power_15 : decode cX7_power 15 = .ok (.ifCond .lt 17, 3) := by decide +kernel
theorem dX7_power_18 : decode cX7_power 18 = .ok (.iload_n 3, 1) := by decide +kernel
theorem dX7_power_19 : decode cX7_power 19 = .ok (.ldc 172, 2) := by decide +kernel
theorem dX7_power_21 : decode cX7_power 21 = .ok (.if_icmp .gt 11, 3) := by decide +kernel
theorem dX7_power_24 : decode cX7_power 24 = .ok (.iload 4, 2) := by decide +kernel
theorem dX7_power_26 : decode cX7_power 26 = .ok (.invokestatic 83, 3) := by decide +kernel
theorem dX7_power_29 : decode cX7_power 29 = .ok (.ifCond .ne 5, 3) := by decide +kernel
theorem dX7_power_32 : decode cX7_power 32 = .ok (.iconst (-1), 1) := by decide +kernel
theorem dX7_power_33 : decode cX7_power 33 = .ok (.ireturn, 1) := by decide +kernel
theorem dX7_power_34 : decode cX7_power 34 = .ok (.aload_n 0, 1) := by decide +kernel
theorem dX7_power_35 : decode cX7_power 35 = .ok (.aload_n 0, 1) := by decide +kernel
theorem dX7_power_36 : decode cX7_power 36 = .ok (.getfield 16, 3) := by decide +kernel
theorem dX7_power_39 : decode cX7_power 39 = .ok (.iload 4, 2) := by decide +kernel
theorem dX7_power_41 : decode cX7_power 41 = .ok (.laload, 1) := by decide +kernel
theorem dX7_power_42 : decode cX7_power 42 = .ok (.ldc 167, 2) := by decide +kernel
theorem dX7_power_44 : decode cX7_power 44 = .ok (.invokevirtual 173, 3) := by decide +kernel
theorem dX7_power_47 : decode cX7_power 47 = .ok (.ifCond .ne 6, 3) := by decide +kernel
theorem dX7_power_50 : decode cX7_power 50 = .ok (.bipush (-2), 2) := by decide +kernel
theorem dX7_power_52 : decode cX7_power 52 = .ok (.ireturn, 1) := by decide +kernel
theorem dX7_power_53 : decode cX7_power 53 = .ok (.aload_n 0, 1) := by decide +kernel
theorem dX7_power_54 : decode cX7_power 54 = .ok (.iload_n 1, 1) := by decide +kernel
theorem dX7_power_55 : decode cX7_power 55 = .ok (.aload_n 0, 1) := by decide +kernel
theorem dX7_power_56 : decode cX7_power 56 = .ok (.getfield 41, 3) := by decide +kernel
theorem dX7_power_59 : decode cX7_power 59 = .ok (.aload_n 0, 1) := by decide +kernel
theorem dX7_power_60 : decode cX7_power 60 = .ok (.getfield 16, 3) := by decide +kernel
theorem dX7_power_63 : decode cX7_power 63 = .ok (.iload_n 2, 1) := by decide +kernel
theorem dX7_power_64 : decode cX7_power 64 = .ok (.laload, 1) := by decide +kernel
theorem dX7_power_65 : decode cX7_power 65 = .ok (.iload_n 3, 1) := by decide +kernel
theorem dX7_power_66 : decode cX7_power 66 = .ok (.aload_n 0, 1) := by decide +kernel
theorem dX7_power_67 : decode cX7_power 67 = .ok (.getfield 16, 3) := by decide +kernel
theorem dX7_power_70 : decode cX7_power 70 = .ok (.iload 4, 2) := by decide +kernel
theorem dX7_power_72 : decode cX7_power 72 = .ok (.laload, 1) := by decide +kernel
theorem dX7_power_73 : decode cX7_power 73 = .ok (.invokevirtual 177, 3) := by decide +kernel
theorem dX7_power_76 : decode cX7_power 76 = .ok (.invokevirtual 112, 3) := by decide +kernel
theorem dX7_power_79 : decode cX7_power 79 = .ok (.ireturn, 1) := by decide +kernel
theorem dX7_order_0 : decode cX7_order 0 = .ok (.iload_n 1, 1) := by decide +kernel
theorem dX7_order_1 : decode cX7_order 1 = .ok (.invokestatic 83, 3) := by decide +kernel
theorem dX7_order_4 : decode cX7_order 4 = .ok (.ifCond .eq 10, 3) := by decide +kernel
theorem dX7_order_7 : decode cX7_order 7 = .ok (.iload_n 2, 1) := by decide +kernel
theorem dX7_order_8 : decode cX7_order 8 = .ok (.invokestatic 83, 3) := by decide +kernel
theorem dX7_order_11 : decode cX7_order 11 = .ok (.ifCond .ne 5, 3) := by decide +kernel
theorem dX7_order_14 : decode cX7_order 14 = .ok (.iconst (-1), 1) := by decide +kernel
theorem dX7_order_15 : decode cX7_order 15 = .ok (.ireturn, 1) := by decide +kernel
theorem dX7_order_16 : decode cX7_order 16 = .ok (.aload_n 0, 1) := by decide +kernel
theorem dX7_order_17 : decode cX7_order 17 = .ok (.aload_n 0, 1) := by decide +kernel
theorem dX7_order_18 : decode cX7_order 18 = .ok (.getfield 16, 3) := by decide +kernel
theorem dX7_order_21 : decode cX7_order 21 = .ok (.iload_n 2, 1) := by decide +kernel
theorem dX7_order_22 : decode cX7_order 22 = .ok (.laload, 1) := by decide +kernel
theorem dX7_order_23 : decode cX7_order 23 = .ok (.ldc 167, 2) := by decide +kernel
theorem dX7_order_25 : decode cX7_order 25 = .ok (.invokevirtual 173, 3) := by decide +kernel
theorem dX7_order_28 : decode cX7_order 28 = .ok (.ifCond .ne 6, 3) := by decide +kernel
theorem dX7_order_31 : decode cX7_order 31 = .ok (.bipush (-2), 2) := by decide +kernel
theorem dX7_order_33 : decode cX7_order 33 = .ok (.ireturn, 1) := by decide +kernel
theorem dX7_order_34 : decode cX7_order 34 = .ok (.aload_n 0, 1) := by decide +kernel
theorem dX7_order_35 : decode cX7_order 35 = .ok (.getfield 32, 3) := by decide +kernel
theorem dX7_order_38 : decode cX7_order 38 = .ok (.aload_n 0, 1) := by decide +kernel
theorem dX7_order_39 : decode cX7_order 39 = .ok (.getfield 16, 3) := by decide +kernel
theorem dX7_order_42 : decode cX7_order 42 = .ok (.iload_n 2, 1) := by decide +kernel
theorem dX7_order_43 : decode cX7_order 43 = .ok (.laload, 1) := by decide +kernel
theorem dX7_order_44 : decode cX7_order 44 = .ok (.invokevirtual 154, 3) := by decide +kernel
theorem dX7_order_47 : decode cX7_order 47 = .ok (.aload_n 0, 1) := by decide +kernel
theorem dX7_order_48 : decode cX7_order 48 = .ok (.getfield 41, 3) := by decide +kernel
theorem dX7_order_51 : decode cX7_order 51 = .ok (.aload_n 0, 1) := by decide +kernel
theorem dX7_order_52 : decode cX7_order 52 = .ok (.getfield 16, 3) := by decide +kernel
theorem dX7_order_55 : decode cX7_order 55 = .ok (.iload_n 1, 1) := by decide +kernel
theorem dX7_order_56 : decode cX7_order 56 = .ok (.laload, 1) := by decide +kernel
theorem dX7_order_57 : decode cX7_order 57 = .ok (.aload_n 0, 1) := by decide +kernel
theorem dX7_order_58 : decode cX7_order 58 = .ok (.getfield 16, 3) := by decide +kernel
theorem dX7_order_61 : decode cX7_order 61 = .ok (.iload_n 2, 1) := by decide +kernel
theorem dX7_order_62 : decode cX7_order 62 = .ok (.laload, 1) := by decide +kernel
theorem dX7_order_63 : decode cX7_order 63 = .ok (.aload_n 0, 1) := by decide +kernel
theorem dX7_order_64 : decode cX7_order 64 = .ok (.getfield 32, 3) := by decide +kernel
theorem dX7_order_67 : decode cX7_order 67 = .ok (.invokevirtual 181, 3) := by decide +kernel
theorem dX7_order_70 : decode cX7_order 70 = .ok (.invokevirtual 185, 3) := by decide +kernel
theorem dX7_order_73 : decode cX7_order 73 = .ok (.ireturn, 1) := by decide +kernel
theorem dX7_inverse_0 : decode cX7_inverse 0 = .ok (.iload_n 1, 1) := by decide +kernel
theorem dX7_inverse_1 : decode cX7_inverse 1 = .ok (.invokestatic 83, 3) := by decide +kernel
theorem dX7_inverse_4 : decode cX7_inverse 4 = .ok (.ifCond .eq 17, 3) := by decide +kernel
theorem dX7_inverse_7 : decode cX7_inverse 7 = .ok (.iload_n 2, 1) := by decide +kernel
theorem dX7_inverse_8 : decode cX7_inverse 8 = .ok (.invokestatic 83, 3) := by decide +kernel
theorem dX7_inverse_11 : decode cX7_inverse 11 = .ok (.ifCond .eq 10, 3) := by decide +kernel
theorem dX7_inverse_14 : decode cX7_inverse 14 = .ok (.iload_n 3, 1) := by decide +kernel
theorem dX7_inverse_15 : decode cX7_inverse 15 = .ok (.invokestatic 83, 3) := by decide +kernel
theorem dX7_inverse_18 : decode cX7_inverse 18 = .ok (.ifCond .ne 5, 3) := by decide +kernel
theorem dX7_inverse_21 : decode cX7_inverse 21 = .ok (.iconst (-1), 1) := by decide +kernel
theorem dX7_inverse_22 : decode cX7_inverse 22 = .ok (.ireturn, 1) := by decide +kernel
theorem dX7_inverse_23 : decode cX7_inverse 23 = .ok (.aload_n 0, 1) := by decide +kernel
theorem dX7_inverse_24 : decode cX7_inverse 24 = .ok (.aload_n 0, 1) := by decide +kernel
theorem dX7_inverse_25 : decode cX7_inverse 25 = .ok (.getfield 16, 3) := by decide +kernel
theorem dX7_inverse_28 : decode cX7_inverse 28 = .ok (.iload_n 3, 1) := by decide +kernel
theorem dX7_inverse_29 : decode cX7_inverse 29 = .ok (.laload, 1) := by decide +kernel
theorem dX7_inverse_30 : decode cX7_inverse 30 = .ok (.ldc 167, 2) := by decide +kernel
theorem dX7_inverse_32 : decode cX7_inverse 32 = .ok (.invokevirtual 173, 3) := by decide +kernel
theorem dX7_inverse_35 : decode cX7_inverse 35 = .ok (.ifCond .ne 6, 3) := by decide +kernel
theorem dX7_inverse_38 : decode cX7_inverse 38 = .ok (.bipush (-2), 2) := by decide +kernel
theorem dX7_inverse_40 : decode cX7_inverse 40 = .ok (.ireturn, 1) := by decide +kernel
theorem dX7_inverse_41 : decode cX7_inverse 41 = .ok (.aload_n 0, 1) := by decide +kernel
theorem dX7_inverse_42 : decode cX7_inverse 42 = .ok (.getfield 41, 3) := by decide +kernel
theorem dX7_inverse_45 : decode cX7_inverse 45 = .ok (.aload_n 0, 1) := by decide +kernel
theorem dX7_inverse_46 : decode cX7_inverse 46 = .ok (.getfield 16, 3) := by decide +kernel
theorem dX7_inverse_49 : decode cX7_inverse 49 = .ok (.iload_n 2, 1) := by decide +kernel
theorem dX7_inverse_50 : decode cX7_inverse 50 = .ok (.laload, 1) := by decide +kernel
theorem dX7_inverse_51 : decode cX7_inverse 51 = .ok (.aload_n 0, 1) := by decide +kernel
theorem dX7_inverse_52 : decode cX7_inverse 52 = .ok (.getfield 16, 3) := by decide +kernel
theorem dX7_inverse_55 : decode cX7_inverse 55 = .ok (.iload_n 3, 1) := by decide +kernel
theorem dX7_inverse_56 : decode cX7_inverse 56 = .ok (.laload, 1) := by decide +kernel
theorem dX7_inverse_57 : decode cX7_inverse 57 = .ok (.invokevirtual 189, 3) := by decide +kernel
theorem dX7_inverse_60 : decode cX7_inverse 60 = .ok (.ifCond .ne 6, 3) := by decide +kernel
theorem dX7_inverse_63 : decode cX7_inverse 63 = .ok (.bipush (-4), 2) := by decide +kernel
theorem dX7_inverse_65 : decode cX7_inverse 65 = .ok (.ireturn, 1) := by decide +kernel
theorem dX7_inverse_66 : decode cX7_inverse 66 = .ok (.aload_n 0, 1) := by decide +kernel
theorem dX7_inverse_67 : decode cX7_inverse 67 = .ok (.iload_n 1, 1) := by decide +kernel
theorem dX7_inverse_68 : decode cX7_inverse 68 = .ok (.aload_n 0, 1) := by decide +kernel
theorem dX7_inverse_69 : decode cX7_inverse 69 = .ok (.getfield 41, 3) := by decide +kernel
theorem dX7_inverse_72 : decode cX7_inverse 72 = .ok (.getfield 193, 3) := by decide +kernel
theorem dX7_inverse_75 : decode cX7_inverse 75 = .ok (.invokevirtual 112, 3) := by decide +kernel
theorem dX7_inverse_78 : decode cX7_inverse 78 = .ok (.ireturn, 1) := by decide +kernel
theorem dX7_single_0 : decode cX7_single 0 = .ok (.iload_n 1, 1) := by decide +kernel
theorem dX7_single_1 : decode cX7_single 1 = .ok (.invokestatic 83, 3) := by decide +kernel
theorem dX7_single_4 : decode cX7_single 4 = .ok (.ifCond .ne 5, 3) := by decide +kernel
theorem dX7_single_7 : decode cX7_single 7 = .ok (.iconst (-1), 1) := by decide +kernel
theorem dX7_single_8 : decode cX7_single 8 = .ok (.ireturn, 1) := by decide +kernel
theorem dX7_single_9 : decode cX7_single 9 = .ok (.aload_n 0, 1) := by decide +kernel
theorem dX7_single_10 : decode cX7_single 10 = .ok (.aload_n 0, 1) := by decide +kernel
theorem dX7_single_11 : decode cX7_single 11 = .ok (.getfield 16, 3) := by decide +kernel
theorem dX7_single_14 : decode cX7_single 14 = .ok (.iload_n 1, 1) := by decide +kernel
theorem dX7_single_15 : decode cX7_single 15 = .ok (.laload, 1) := by decide +kernel
theorem dX7_single_16 : decode cX7_single 16 = .ok (.ldc 167, 2) := by decide +kernel
theorem dX7_single_18 : decode cX7_single 18 = .ok (.invokevirtual 173, 3) := by decide +kernel
theorem dX7_single_21 : decode cX7_single 21 = .ok (.ifCond .ne 6, 3) := by decide +kernel
theorem dX7_single_24 : decode cX7_single 24 = .ok (.bipush (-2), 2) := by decide +kernel
theorem dX7_single_26 : decode cX7_single 26 = .ok (.ireturn, 1) := by decide +kernel
theorem dX7_single_27 : decode cX7_single 27 = .ok (.aload_n 0, 1) := by decide +kernel
theorem dX7_single_28 : decode cX7_single 28 = .ok (.getfield 32, 3) := by decide +kernel
theorem dX7_single_31 : decode cX7_single 31 = .ok (.aload_n 0, 1) := by decide +kernel
theorem dX7_single_32 : decode cX7_single 32 = .ok (.getfield 16, 3) := by decide +kernel
theorem dX7_single_35 : decode cX7_single 35 = .ok (.iload_n 1, 1) := by decide +kernel
theorem dX7_single_36 : decode cX7_single 36 = .ok (.laload, 1) := by decide +kernel
theorem dX7_single_37 : decode cX7_single 37 = .ok (.invokevirtual 154, 3) := by decide +kernel
theorem dX7_single_40 : decode cX7_single 40 = .ok (.aload_n 0, 1) := by decide +kernel
theorem dX7_single_41 : decode cX7_single 41 = .ok (.getfield 32, 3) := by decide +kernel
theorem dX7_single_44 : decode cX7_single 44 = .ok (.invokevirtual 181, 3) := by decide +kernel
theorem dX7_single_47 : decode cX7_single 47 = .ok (.ireturn, 1) := by decide +kernel
theorem dX7_roots_0 : decode cX7_roots 0 = .ok (.iload_n 1, 1) := by decide +kernel
theorem dX7_roots_1 : decode cX7_roots 1 = .ok (.invokestatic 83, 3) := by decide +kernel
theorem dX7_roots_4 : decode cX7_roots 4 = .ok (.ifCond .eq 10, 3) := by decide +kernel
theorem dX7_roots_7 : decode cX7_roots 7 = .ok (.iload_n 2, 1) := by decide +kernel
theorem dX7_roots_8 : decode cX7_roots 8 = .ok (.invokestatic 83, 3) := by decide +kernel
theorem dX7_roots_11 : decode cX7_roots 11 = .ok (.ifCond .ne 5, 3) := by decide +kernel
theorem dX7_roots_14 : decode cX7_roots 14 = .ok (.iconst (-1), 1) := by decide +kernel
theorem dX7_roots_15 : decode cX7_roots 15 = .ok (.ireturn, 1) := by decide +kernel
theorem dX7_roots_16 : decode cX7_roots 16 = .ok (.aload_n 0, 1) := by decide +kernel
theorem dX7_roots_17 : decode cX7_roots 17 = .ok (.aload_n 0, 1) := by decide +kernel
theorem dX7_roots_18 : decode cX7_roots 18 = .ok (.getfield 16, 3) := by decide +kernel
theorem dX7_roots_21 : decode cX7_roots 21 = .ok (.iload_n 2, 1) := by decide +kernel
theorem dX7_roots_22 : decode cX7_roots 22 = .ok (.laload, 1) := by decide +kernel
theorem dX7_roots_23 : decode cX7_roots 23 = .ok (.sipush 400, 3) := by decide +kernel
theorem dX7_roots_26 : decode cX7_roots 26 = .ok (.invokevirtual 173, 3) := by decide +kernel
theorem dX7_roots_29 : decode cX7_roots 29 = .ok (.ifCond .ne 6, 3) := by decide +kernel
theorem dX7_roots_32 : decode cX7_roots 32 = .ok (.bipush (-2), 2) := by decide +kernel
theorem dX7_roots_34 : decode cX7_roots 34 = .ok (.ireturn, 1) := by decide +kernel
theorem dX7_roots_35 : decode cX7_roots 35 = .ok (.aload_n 0, 1) := by decide +kernel
theorem dX7_roots_36 : decode cX7_roots 36 = .ok (.getfield 41, 3) := by decide +kernel
theorem dX7_roots_39 : decode cX7_roots 39 = .ok (.aload_n 0, 1) := by decide +kernel
theorem dX7_roots_40 : decode cX7_roots 40 = .ok (.getfield 16, 3) := by decide +kernel
theorem dX7_roots_43 : decode cX7_roots 43 = .ok (.iload_n 1, 1) := by decide +kernel
theorem dX7_roots_44 : decode cX7_roots 44 = .ok (.laload, 1) := by decide +kernel
theorem dX7_roots_45 : decode cX7_roots 45 = .ok (.aload_n 0, 1) := by decide +kernel
theorem dX7_roots_46 : decode cX7_roots 46 = .ok (.getfield 16, 3) := by decide +kernel
theorem dX7_roots_49 : decode cX7_roots 49 = .ok (.iload_n 2, 1) := by decide +kernel
theorem dX7_roots_50 : decode cX7_roots 50 = .ok (.laload, 1) := by decide +kernel
theorem dX7_roots_51 : decode cX7_roots 51 = .ok (.iconst 0, 1) := by decide +kernel
theorem dX7_roots_52 : decode cX7_roots 52 = .ok (.invokevirtual 196, 3) := by decide +kernel
theorem dX7_roots_55 : decode cX7_roots 55 = .ok (.ireturn, 1) := by decide +kernel
theorem dX7_root_0 : decode cX7_root 0 = .ok (.iload_n 1, 1) := by decide +kernel
theorem dX7_root_1 : decode cX7_root 1 = .ok (.invokestatic 83, 3) := by decide +kernel
theorem dX7_root_4 : decode cX7_root 4 = .ok (.ifCond .eq 22, 3) := by decide +kernel
theorem dX7_root_7 : decode cX7_root 7 = .ok (.iload_n 2, 1) := by decide +kernel
theorem dX7_root_8 : decode cX7_root 8 = .ok (.invokestatic 83, 3) := by decide +kernel
theorem dX7_root_11 : decode cX7_root 11 = .ok (.ifCond .eq 15, 3) := by decide +kernel
theorem dX7_root_14 : decode cX7_root 14 = .ok (.iload_n 3, 1) := by decide +kernel
theorem dX7_root_15 : decode cX7_root 15 = .ok (.invokestatic 83, 3) := by decide +kernel
theorem dX7_root_18 : decode cX7_root 18 = .ok (.ifCond .eq 8, 3) := by decide +kernel
theorem dX7_root_21 : decode cX7_root 21 = .ok (.iload 4, 2) := by decide +kernel
theorem dX7_root_23 : decode cX7_root 23 = .ok (.ifCond .ge 5, 3) := by decide +kernel
theorem dX7_root_26 : decode cX7_root 26 = .ok (.iconst (-1), 1) := by decide +kernel
theorem dX7_root_27 : decode cX7_root 27 = .ok (.ireturn, 1) := by decide +kernel
theorem dX7_root_28 : decode cX7_root 28 = .ok (.aload_n 0, 1) := by decide +kernel
theorem dX7_root_29 : decode cX7_root 29 = .ok (.aload_n 0, 1) := by decide +kernel
theorem dX7_root_30 : decode cX7_root 30 = .ok (.getfield 16, 3) := by decide +kernel
theorem dX7_root_33 : decode cX7_root 33 = .ok (.iload_n 3, 1) := by decide +kernel
theorem dX7_root_34 : decode cX7_root 34 = .ok (.laload, 1) := by decide +kernel
theorem dX7_root_35 : decode cX7_root 35 = .ok (.sipush 400, 3) := by decide +kernel
theorem dX7_root_38 : decode cX7_root 38 = .ok (.invokevirtual 173, 3) := by decide +kernel
theorem dX7_root_41 : decode cX7_root 41 = .ok (.ifCond .ne 6, 3) := by decide +kernel
theorem dX7_root_44 : decode cX7_root 44 = .ok (.bipush (-2), 2) := by decide +kernel
theorem dX7_root_46 : decode cX7_root 46 = .ok (.ireturn, 1) := by decide +kernel
theorem dX7_root_47 : decode cX7_root 47 = .ok (.iload 4, 2) := by decide +kernel
theorem dX7_root_49 : decode cX7_root 49 = .ok (.aload_n 0, 1) := by decide +kernel
theorem dX7_root_50 : decode cX7_root 50 = .ok (.getfield 41, 3) := by decide +kernel
theorem dX7_root_53 : decode cX7_root 53 = .ok (.aload_n 0, 1) := by decide +kernel
theorem dX7_root_54 : decode cX7_root 54 = .ok (.getfield 16, 3) := by decide +kernel
theorem dX7_root_57 : decode cX7_root 57 = .ok (.iload_n 2, 1) := by decide +kernel
theorem dX7_root_58 : decode cX7_root 58 = .ok (.laload, 1) := by decide +kernel
theorem dX7_root_59 : decode cX7_root 59 = .ok (.aload_n 0, 1) := by decide +kernel
theorem dX7_root_60 : decode cX7_root 60 = .ok (.getfield 16, 3) := by decide +kernel
theorem dX7_root_63 : decode cX7_root 63 = .ok (.iload_n 3, 1) := by decide +kernel
theorem dX7_root_64 : decode cX7_root 64 = .ok (.laload, 1) := by decide +kernel
theorem dX7_root_65 : decode cX7_root 65 = .ok (.iload 4, 2) := by decide +kernel
theorem dX7_root_67 : decode cX7_root 67 = .ok (.invokevirtual 196, 3) := by decide +kernel
theorem dX7_root_70 : decode cX7_root 70 = .ok (.if_icmp .lt 6, 3) := by decide +kernel
theorem dX7_root_73 : decode cX7_root 73 = .ok (.bipush (-4), 2) := by decide +kernel
theorem dX7_root_75 : decode cX7_root 75 = .ok (.ireturn, 1) := by decide +kernel
theorem dX7_root_76 : decode cX7_root 76 = .ok (.aload_n 0, 1) := by decide +kernel
theorem dX7_root_77 : decode cX7_root 77 = .ok (.iload_n 1, 1) := by decide +kernel
theorem dX7_root_78 : decode cX7_root 78 = .ok (.aload_n 0, 1) := by decide +kernel
theorem dX7_root_79 : decode cX7_root 79 = .ok (.getfield 41, 3) := by decide +kernel
theorem dX7_root_82 : decode cX7_root 82 = .ok (.getfield 193, 3) := by decide +kernel
theorem dX7_root_85 : decode cX7_root 85 = .ok (.invokevirtual 112, 3) := by decide +kernel
theorem dX7_root_88 : decode cX7_root 88 = .ok (.ireturn, 1) := by decide +kernel
theorem dX7_digit_0 : decode cX7_digit 0 = .ok (.iload_n 1, 1) := by decide +kernel
theorem dX7_digit_1 : decode cX7_digit 1 = .ok (.invokestatic 83, 3) := by decide +kernel
theorem dX7_digit_4 : decode cX7_digit 4 = .ok (.ifCond .eq 14, 3) := by decide +kernel
theorem dX7_digit_7 : decode cX7_digit 7 = .ok (.iload_n 2, 1) := by decide +kernel
theorem dX7_digit_8 : decode cX7_digit 8 = .ok (.invokestatic 83, 3) := by decide +kernel
theorem dX7_digit_11 : decode cX7_digit 11 = .ok (.ifCond .eq 7, 3) := by decide +kernel
theorem dX7_digit_14 : decode cX7_digit 14 = .ok (.iload_n 3, 1) := by decide +kernel
theorem dX7_digit_15 : decode cX7_digit 15 = .ok (.ifCond .ge 5, 3) := by decide +kernel
theorem dX7_digit_18 : decode cX7_digit 18 = .ok (.iconst (-1), 1) := by decide +kernel
theorem dX7_digit_19 : decode cX7_digit 19 = .ok (.ireturn, 1) := by decide +kernel
theorem dX7_digit_20 : decode cX7_digit 20 = .ok (.aload_n 0, 1) := by decide +kernel
theorem dX7_digit_21 : decode cX7_digit 21 = .ok (.getfield 48, 3) := by decide +kernel
theorem dX7_digit_24 : decode cX7_digit 24 = .ok (.aload_n 0, 1) := by decide +kernel
theorem dX7_digit_25 : decode cX7_digit 25 = .ok (.getfield 16, 3) := by decide +kernel
theorem dX7_digit_28 : decode cX7_digit 28 = .ok (.iload_n 2, 1) := by decide +kernel
theorem dX7_digit_29 : decode cX7_digit 29 = .ok (.laload, 1) := by decide +kernel
theorem dX7_digit_30 : decode cX7_digit 30 = .ok (.invokevirtual 199, 3) := by decide +kernel
theorem dX7_digit_33 : decode cX7_digit 33 = .ok (.ifCond .ne 6, 3) := by decide +kernel
theorem dX7_digit_36 : decode cX7_digit 36 = .ok (.bipush (-2), 2) := by decide +kernel
theorem dX7_digit_38 : decode cX7_digit 38 = .ok (.ireturn, 1) := by decide +kernel
theorem dX7_digit_39 : decode cX7_digit 39 = .ok (.aload_n 0, 1) := by decide +kernel
theorem dX7_digit_40 : decode cX7_digit 40 = .ok (.getfield 48, 3) := by decide +kernel
theorem dX7_digit_43 : decode cX7_digit 43 = .ok (.aload_n 0, 1) := by decide +kernel
theorem dX7_digit_44 : decode cX7_digit 44 = .ok (.getfield 16, 3) := by decide +kernel
theorem dX7_digit_47 : decode cX7_digit 47 = .ok (.iload_n 1, 1) := by decide +kernel
theorem dX7_digit_48 : decode cX7_digit 48 = .ok (.laload, 1) := by decide +kernel
theorem dX7_digit_49 : decode cX7_digit 49 = .ok (.invokevirtual 202, 3) := by decide +kernel
theorem dX7_digit_52 : decode cX7_digit 52 = .ok (.aload_n 0, 1) := by decide +kernel
theorem dX7_digit_53 : decode cX7_digit 53 = .ok (.getfield 48, 3) := by decide +kernel
theorem dX7_digit_56 : decode cX7_digit 56 = .ok (.aload_n 0, 1) := by decide +kernel
theorem dX7_digit_57 : decode cX7_digit 57 = .ok (.getfield 16, 3) := by decide +kernel
theorem dX7_digit_60 : decode cX7_digit 60 = .ok (.iload_n 1, 1) := by decide +kernel
theorem dX7_digit_61 : decode cX7_digit 61 = .ok (.laload, 1) := by decide +kernel
theorem dX7_digit_62 : decode cX7_digit 62 = .ok (.iload_n 3, 1) := by decide +kernel
theorem dX7_digit_63 : decode cX7_digit 63 = .ok (.invokevirtual 205, 3) := by decide +kernel
theorem dX7_digit_66 : decode cX7_digit 66 = .ok (.ireturn, 1) := by decide +kernel
theorem dX7_digits_0 : decode cX7_digits 0 = .ok (.iload_n 1, 1) := by decide +kernel
theorem dX7_digits_1 : decode cX7_digits 1 = .ok (.invokestatic 83, 3) := by decide +kernel
theorem dX7_digits_4 : decode cX7_digits 4 = .ok (.ifCond .eq 19, 3) := by decide +kernel
theorem dX7_digits_7 : decode cX7_digits 7 = .ok (.iload_n 2, 1) := by decide +kernel
theorem dX7_digits_8 : decode cX7_digits 8 = .ok (.invokestatic 83, 3) := by decide +kernel
theorem dX7_digits_11 : decode cX7_digits 11 = .ok (.ifCond .eq 12, 3) := by decide +kernel
theorem dX7_digits_14 : decode cX7_digits 14 = .ok (.iload_n 3, 1) := by decide +kernel
theorem dX7_digits_15 : decode cX7_digits 15 = .ok (.ifCond .lt 8, 3) := by decide +kernel
theorem dX7_digits_18 : decode cX7_digits 18 = .ok (.iload_n 3, 1) := by decide +kernel
theorem dX7_digits_19 : decode cX7_digits 19 = .ok (.iconst 2, 1) := by decide +kernel
theorem dX7_digits_20 : decode cX7_digits 20 = .ok (.if_icmp .le 5, 3) := by decide +kernel
theorem dX7_digits_23 : decode cX7_digits 23 = .ok (.iconst (-1), 1) := by decide +kernel
theorem dX7_digits_24 : decode cX7_digits 24 = .ok (.ireturn, 1) := by decide +kernel
theorem dX7_digits_25 : decode cX7_digits 25 = .ok (.aload_n 0, 1) := by decide +kernel
theorem dX7_digits_26 : decode cX7_digits 26 = .ok (.getfield 48, 3) := by decide +kernel
theorem dX7_digits_29 : decode cX7_digits 29 = .ok (.aload_n 0, 1) := by decide +kernel
theorem dX7_digits_30 : decode cX7_digits 30 = .ok (.getfield 16, 3) := by decide +kernel
theorem dX7_digits_33 : decode cX7_digits 33 = .ok (.iload_n 2, 1) := by decide +kernel
theorem dX7_digits_34 : decode cX7_digits 34 = .ok (.laload, 1) := by decide +kernel
theorem dX7_digits_35 : decode cX7_digits 35 = .ok (.invokevirtual 199, 3) := by decide +kernel
theorem dX7_digits_38 : decode cX7_digits 38 = .ok (.ifCond .ne 6, 3) := by decide +kernel
theorem dX7_digits_41 : decode cX7_digits 41 = .ok (.bipush (-2), 2) := by decide +kernel
theorem dX7_digits_43 : decode cX7_digits 43 = .ok (.ireturn, 1) := by decide +kernel
theorem dX7_digits_44 : decode cX7_digits 44 = .ok (.aload_n 0, 1) := by decide +kernel
theorem dX7_digits_45 : decode cX7_digits 45 = .ok (.getfield 48, 3) := by decide +kernel
theorem dX7_digits_48 : decode cX7_digits 48 = .ok (.aload_n 0, 1) := by decide +kernel
theorem dX7_digits_49 : decode cX7_digits 49 = .ok (.getfield 16, 3) := by decide +kernel
theorem dX7_digits_52 : decode cX7_digits 52 = .ok (.iload_n 1, 1) := by decide +kernel
theorem dX7_digits_53 : decode cX7_digits 53 = .ok (.laload, 1) := by decide +kernel
theorem dX7_digits_54 : decode cX7_digits 54 = .ok (.invokevirtual 202, 3) := by decide +kernel
theorem dX7_digits_57 : decode cX7_digits 57 = .ok (.iload_n 3, 1) := by decide +kernel
theorem dX7_digits_58 : decode cX7_digits 58 = .ok (.iconst 2, 1) := by decide +kernel
theorem dX7_digits_59 : decode cX7_digits 59 = .ok (.if_icmp .ne 17, 3) := by decide +kernel
theorem dX7_digits_62 : decode cX7_digits 62 = .ok (.aload_n 0, 1) := by decide +kernel
theorem dX7_digits_63 : decode cX7_digits 63 = .ok (.getfield 48, 3) := by decide +kernel
theorem dX7_digits_66 : decode cX7_digits 66 = .ok (.aload_n 0, 1) := by decide +kernel
theorem dX7_digits_67 : decode cX7_digits 67 = .ok (.getfield 16, 3) := by decide +kernel
theorem dX7_digits_70 : decode cX7_digits 70 = .ok (.iload_n 1, 1) := by decide +kernel
theorem dX7_digits_71 : decode cX7_digits 71 = .ok (.laload, 1) := by decide +kernel
theorem dX7_digits_72 : decode cX7_digits 72 = .ok (.invokevirtual 209, 3) := by decide +kernel
theorem dX7_digits_75 : decode cX7_digits 75 = .ok (.ireturn, 1) := by decide +kernel
theorem dX7_digits_76 : decode cX7_digits 76 = .ok (.iload_n 3, 1) := by decide +kernel
theorem dX7_digits_77 : decode cX7_digits 77 = .ok (.ifCond .ne 13, 3) := by decide +kernel
theorem dX7_digits_80 : decode cX7_digits 80 = .ok (.aload_n 0, 1) := by decide +kernel
theorem dX7_digits_81 : decode cX7_digits 81 = .ok (.getfield 48, 3) := by decide +kernel
theorem dX7_digits_84 : decode cX7_digits 84 = .ok (.getfield 213, 3) := by decide +kernel
theorem dX7_digits_87 : decode cX7_digits 87 = .ok (.goto 10, 3) := by decide +kernel
theorem dX7_digits_90 : decode cX7_digits 90 = .ok (.aload_n 0, 1) := by decide +kernel
theorem dX7_digits_91 : decode cX7_digits 91 = .ok (.getfield 48, 3) := by decide +kernel
theorem dX7_digits_94 : decode cX7_digits 94 = .ok (.getfield 216, 3) := by decide +kernel
theorem dX7_digits_97 : decode cX7_digits 97 = .ok (.ireturn, 1) := by decide +kernel
theorem dX7_rounds_0 : decode cX7_rounds 0 = .ok (.iload_n 1, 1) := by decide +kernel
theorem dX7_rounds_1 : decode cX7_rounds 1 = .ok (.invokestatic 83, 3) := by decide +kernel
theorem dX7_rounds_4 : decode cX7_rounds 4 = .ok (.ifCond .eq 12, 3) := by decide +kernel
theorem dX7_rounds_7 : decode cX7_rounds 7 = .ok (.iload_n 2, 1) := by decide +kernel
theorem dX7_rounds_8 : decode cX7_rounds 8 = .ok (.ifCond .lt 8, 3) := by decide +kernel
theorem dX7_rounds_11 : decode cX7_rounds 11 = .ok (.iload_n 2, 1) := by decide +kernel
theorem dX7_rounds_12 : decode cX7_rounds 12 = .ok (.iconst 1, 1) := by decide +kernel
theorem dX7_rounds_13 : decode cX7_rounds 13 = .ok (.if_icmp .le 5, 3) := by decide +kernel
theorem dX7_rounds_16 : decode cX7_rounds 16 = .ok (.iconst (-1), 1) := by decide +kernel
theorem dX7_rounds_17 : decode cX7_rounds 17 = .ok (.ireturn, 1) := by decide +kernel
theorem dX7_rounds_18 : decode cX7_rounds 18 = .ok (.aload_n 0, 1) := by decide +kernel
theorem dX7_rounds_19 : decode cX7_rounds 19 = .ok (.getfield 48, 3) := by decide +kernel
theorem dX7_rounds_22 : decode cX7_rounds 22 = .ok (.aload_n 0, 1) := by decide +kernel
theorem dX7_rounds_23 : decode cX7_rounds 23 = .ok (.getfield 16, 3) := by decide +kernel
theorem dX7_rounds_26 : decode cX7_rounds 26 = .ok (.iload_n 1, 1) := by decide +kernel
theorem dX7_rounds_27 : decode cX7_rounds 27 = .ok (.laload, 1) := by decide +kernel
theorem dX7_rounds_28 : decode cX7_rounds 28 = .ok (.invokevirtual 199, 3) := by decide +kernel
theorem dX7_rounds_31 : decode cX7_rounds 31 = .ok (.ifCond .ne 6, 3) := by decide +kernel
theorem dX7_rounds_34 : decode cX7_rounds 34 = .ok (.bipush (-2), 2) := by decide +kernel
theorem dX7_rounds_36 : decode cX7_rounds 36 = .ok (.ireturn, 1) := by decide +kernel
theorem dX7_rounds_37 : decode cX7_rounds 37 = .ok (.aload_n 0, 1) := by decide +kernel
theorem dX7_rounds_38 : decode cX7_rounds 38 = .ok (.getfield 48, 3) := by decide +kernel
theorem dX7_rounds_41 : decode cX7_rounds 41 = .ok (.invokevirtual 219, 3) := by decide +kernel
theorem dX7_rounds_44 : decode cX7_rounds 44 = .ok (.iload_n 2, 1) := by decide +kernel
theorem dX7_rounds_45 : decode cX7_rounds 45 = .ok (.ifCond .ne 13, 3) := by decide +kernel
theorem dX7_rounds_48 : decode cX7_rounds 48 = .ok (.aload_n 0, 1) := by decide +kernel
theorem dX7_rounds_49 : decode cX7_rounds 49 = .ok (.getfield 48, 3) := by decide +kernel
theorem dX7_rounds_52 : decode cX7_rounds 52 = .ok (.getfield 222, 3) := by decide +kernel
theorem dX7_rounds_55 : decode cX7_rounds 55 = .ok (.goto 10, 3) := by decide +kernel
theorem dX7_rounds_58 : decode cX7_rounds 58 = .ok (.aload_n 0, 1) := by decide +kernel
theorem dX7_rounds_59 : decode cX7_rounds 59 = .ok (.getfield 48, 3) := by decide +kernel
theorem dX7_rounds_62 : decode cX7_rounds 62 = .ok (.getfield 225, 3) := by decide +kernel
theorem dX7_rounds_65 : decode cX7_rounds 65 = .ok (.ireturn, 1) := by decide +kernel
theorem dX7_flocks_0 : decode cX7_flocks 0 = .ok (.iload_n 1, 1) := by decide +kernel
theorem dX7_flocks_1 : decode cX7_flocks 1 = .ok (.iconst 1, 1) := by decide +kernel
theorem dX7_flocks_2 : decode cX7_flocks 2 = .ok (.if_icmp .lt 19, 3) := by decide +kernel
theorem dX7_flocks_5 : decode cX7_flocks 5 = .ok (.iload_n 1, 1) := by decide +kernel
theorem dX7_flocks_6 : decode cX7_flocks 6 = .ok (.sipush 200, 3) := by decide +kernel
theorem dX7_flocks_9 : decode cX7_flocks 9 = .ok (.if_icmp .gt 12, 3) := by decide +kernel
theorem dX7_flocks_12 : decode cX7_flocks 12 = .ok (.iload_n 2, 1) := by decide +kernel
theorem dX7_flocks_13 : decode cX7_flocks 13 = .ok (.ifCond .lt 8, 3) := by decide +kernel
theorem dX7_flocks_16 : decode cX7_flocks 16 = .ok (.iload_n 2, 1) := by decide +kernel
theorem dX7_flocks_17 : decode cX7_flocks 17 = .ok (.iconst 1, 1) := by decide +kernel
theorem dX7_flocks_18 : decode cX7_flocks 18 = .ok (.if_icmp .le 5, 3) := by decide +kernel
theorem dX7_flocks_21 : decode cX7_flocks 21 = .ok (.iconst (-1), 1) := by decide +kernel
theorem dX7_flocks_22 : decode cX7_flocks 22 = .ok (.ireturn, 1) := by decide +kernel
theorem dX7_flocks_23 : decode cX7_flocks 23 = .ok (.iconst 0, 1) := by decide +kernel
theorem dX7_flocks_24 : decode cX7_flocks 24 = .ok (.istore_n 3, 1) := by decide +kernel
theorem dX7_flocks_25 : decode cX7_flocks 25 = .ok (.iconst 1, 1) := by decide +kernel
theorem dX7_flocks_26 : decode cX7_flocks 26 = .ok (.istore 4, 2) := by decide +kernel
theorem dX7_flocks_28 : decode cX7_flocks 28 = .ok (.iload 4, 2) := by decide +kernel
theorem dX7_flocks_30 : decode cX7_flocks 30 = .ok (.iload_n 1, 1) := by decide +kernel
theorem dX7_flocks_31 : decode cX7_flocks 31 = .ok (.if_icmp .gt 40, 3) := by decide +kernel
theorem dX7_flocks_34 : decode cX7_flocks 34 = .ok (.iload_n 1, 1) := by decide +kernel
theorem dX7_flocks_35 : decode cX7_flocks 35 = .ok (.iload 4, 2) := by decide +kernel
theorem dX7_flocks_37 : decode cX7_flocks 37 = .ok (.irem, 1) := by decide +kernel
theorem dX7_flocks_38 : decode cX7_flocks 38 = .ok (.ifCond .ne 27, 3) := by decide +kernel
theorem dX7_flocks_41 : decode cX7_flocks 41 = .ok (.iload_n 3, 1) := by decide +kernel
theorem dX7_flocks_42 : decode cX7_flocks 42 = .ok (.iload_n 2, 1) := by decide +kernel
theorem dX7_flocks_43 : decode cX7_flocks 43 = .ok (.ifCond .ne 10, 3) := by decide +kernel
theorem dX7_flocks_46 : decode cX7_flocks 46 = .ok (.iload_n 1, 1) := by decide +kernel
theorem dX7_flocks_47 : decode cX7_flocks 47 = .ok (.iload 4, 2) := by decide +kernel
theorem dX7_flocks_49 : decode cX7_flocks 49 = .ok (.idiv, 1) := by decide +kernel
theorem dX7_flocks_50 : decode cX7_flocks 50 = .ok (.goto 13, 3) := by decide +kernel
theorem dX7_flocks_53 : decode cX7_flocks 53 = .ok (.aload_n 0, 1) := by decide +kernel
theorem dX7_flocks_54 : decode cX7_flocks 54 = .ok (.iload_n 1, 1) := by decide +kernel
theorem dX7_flocks_55 : decode cX7_flocks 55 = .ok (.iload 4, 2) := by decide +kernel
theorem dX7_flocks_57 : decode cX7_flocks 57 = .ok (.idiv, 1) := by decide +kernel
theorem dX7_flocks_58 : decode cX7_flocks 58 = .ok (.iload 4, 2) := by decide +kernel
theorem dX7_flocks_60 : decode cX7_flocks 60 = .ok (.invokevirtual 228, 3) := by decide +kernel
theorem dX7_flocks_63 : decode cX7_flocks 63 = .ok (.iadd, 1) := by decide +kernel
theorem dX7_flocks_64 : decode cX7_flocks 64 = .ok (.istore_n 3, 1) := by decide +kernel
theorem dX7_flocks_65 : decode cX7_flocks 65 = .ok (.iinc 4 1, 3) := by decide +kernel
theorem dX7_flocks_68 : decode cX7_flocks 68 = .ok (.goto (-40), 3) := by decide +kernel
theorem dX7_flocks_71 : decode cX7_flocks 71 = .ok (.iload_n 3, 1) := by decide +kernel
theorem dX7_flocks_72 : decode cX7_flocks 72 = .ok (.ireturn, 1) := by decide +kernel
theorem dX7_closedOnes_0 : decode cX7_closedOnes 0 = .ok (.iconst 0, 1) := by decide +kernel
theorem dX7_closedOnes_1 : decode cX7_closedOnes 1 = .ok (.istore_n 3, 1) := by decide +kernel
theorem dX7_closedOnes_2 : decode cX7_closedOnes 2 = .ok (.iconst 0, 1) := by decide +kernel
theorem dX7_closedOnes_3 : decode cX7_closedOnes 3 = .ok (.istore 4, 2) := by decide +kernel
theorem dX7_closedOnes_5 : decode cX7_closedOnes 5 = .ok (.iload 4, 2) := by decide +kernel
theorem dX7_closedOnes_7 : decode cX7_closedOnes 7 = .ok (.iload_n 1, 1) := by decide +kernel
theorem dX7_closedOnes_8 : decode cX7_closedOnes 8 = .ok (.if_icmp .ge 40, 3) := by decide +kernel
theorem dX7_closedOnes_11 : decode cX7_closedOnes 11 = .ok (.aload_n 0, 1) := by decide +kernel
theorem dX7_closedOnes_12 : decode cX7_closedOnes 12 = .ok (.getfield 55, 3) := by decide +kernel
theorem dX7_closedOnes_15 : decode cX7_closedOnes 15 = .ok (.iload_n 1, 1) := by decide +kernel
theorem dX7_closedOnes_16 : decode cX7_closedOnes 16 = .ok (.i2l, 1) := by decide +kernel
theorem dX7_closedOnes_17 : decode cX7_closedOnes 17 = .ok (.iload_n 2, 1) := by decide +kernel
theorem dX7_closedOnes_18 : decode cX7_closedOnes 18 = .ok (.i2l, 1) := by decide +kernel
theorem dX7_closedOnes_19 : decode cX7_closedOnes 19 = .ok (.iload 4, 2) := by decide +kernel
theorem dX7_closedOnes_21 : decode cX7_closedOnes 21 = .ok (.i2l, 1) := by decide +kernel
theorem dX7_closedOnes_22 : decode cX7_closedOnes 22 = .ok (.invokevirtual 232, 3) := by decide +kernel
theorem dX7_closedOnes_25 : decode cX7_closedOnes 25 = .ok (.aload_n 0, 1) := by decide +kernel
theorem dX7_closedOnes_26 : decode cX7_closedOnes 26 = .ok (.getfield 55, 3) := by decide +kernel
theorem dX7_closedOnes_29 : decode cX7_closedOnes 29 = .ok (.aload_n 0, 1) := by decide +kernel
theorem dX7_closedOnes_30 : decode cX7_closedOnes 30 = .ok (.getfield 10, 3) := by decide +kernel
theorem dX7_closedOnes_33 : decode cX7_closedOnes 33 = .ok (.invokevirtual 235, 3) := by decide +kernel
theorem dX7_closedOnes_36 : decode cX7_closedOnes 36 = .ok (.ifCond .eq 6, 3) := by decide +kernel
theorem dX7_closedOnes_39 : decode cX7_closedOnes 39 = .ok (.iinc 3 1, 3) := by decide +kernel
theorem dX7_closedOnes_42 : decode cX7_closedOnes 42 = .ok (.iinc 4 1, 3) := by decide +kernel
theorem dX7_closedOnes_45 : decode cX7_closedOnes 45 = .ok (.goto (-40), 3) := by decide +kernel
theorem dX7_closedOnes_48 : decode cX7_closedOnes 48 = .ok (.iload_n 3, 1) := by decide +kernel
theorem dX7_closedOnes_49 : decode cX7_closedOnes 49 = .ok (.ireturn, 1) := by decide +kernel
theorem dX7_flock_0 : decode cX7_flock 0 = .ok (.iload_n 1, 1) := by decide +kernel
theorem dX7_flock_1 : decode cX7_flock 1 = .ok (.iconst 1, 1) := by decide +kernel
theorem dX7_flock_2 : decode cX7_flock 2 = .ok (.if_icmp .lt 23, 3) := by decide +kernel
theorem dX7_flock_5 : decode cX7_flock 5 = .ok (.iload_n 1, 1) := by decide +kernel
theorem dX7_flock_6 : decode cX7_flock 6 = .ok (.sipush 200, 3) := by decide +kernel
theorem dX7_flock_9 : decode cX7_flock 9 = .ok (.if_icmp .gt 16, 3) := by decide +kernel
theorem dX7_flock_12 : decode cX7_flock 12 = .ok (.iload_n 2, 1) := by decide +kernel
theorem dX7_flock_13 : decode cX7_flock 13 = .ok (.ifCond .lt 12, 3) := by decide +kernel
theorem dX7_flock_16 : decode cX7_flock 16 = .ok (.iload_n 3, 1) := by decide +kernel
theorem dX7_flock_17 : decode cX7_flock 17 = .ok (.ifCond .lt 8, 3) := by decide +kernel
theorem dX7_flock_20 : decode cX7_flock 20 = .ok (.iload_n 3, 1) := by decide +kernel
theorem dX7_flock_21 : decode cX7_flock 21 = .ok (.iconst 5, 1) := by decide +kernel
theorem dX7_flock_22 : decode cX7_flock 22 = .ok (.if_icmp .le 5, 3) := by decide +kernel
theorem dX7_flock_25 : decode cX7_flock 25 = .ok (.iconst (-1), 1) := by decide +kernel
theorem dX7_flock_26 : decode cX7_flock 26 = .ok (.ireturn, 1) := by decide +kernel
theorem dX7_flock_27 : decode cX7_flock 27 = .ok (.aload_n 0, 1) := by decide +kernel
theorem dX7_flock_28 : decode cX7_flock 28 = .ok (.iload_n 1, 1) := by decide +kernel
theorem dX7_flock_29 : decode cX7_flock 29 = .ok (.iload_n 2, 1) := by decide +kernel
theorem dX7_flock_30 : decode cX7_flock 30 = .ok (.invokevirtual 239, 3) := by decide +kernel
theorem dX7_flock_33 : decode cX7_flock 33 = .ok (.ifCond .ne 6, 3) := by decide +kernel
theorem dX7_flock_36 : decode cX7_flock 36 = .ok (.bipush (-4), 2) := by decide +kernel
theorem dX7_flock_38 : decode cX7_flock 38 = .ok (.ireturn, 1) := by decide +kernel
theorem dX7_flock_39 : decode cX7_flock 39 = .ok (.iload_n 3, 1) := by decide +kernel
theorem dX7_flock_40 : decode cX7_flock 40 = .ok (.tableswitch 74 3 5 #[28, 48, 61], 28) := by decide +kernel
theorem dX7_flock_68 : decode cX7_flock 68 = .ok (.aload_n 0, 1) := by decide +kernel
theorem dX7_flock_69 : decode cX7_flock 69 = .ok (.getfield 55, 3) := by decide +kernel
theorem dX7_flock_72 : decode cX7_flock 72 = .ok (.aload_n 0, 1) := by decide +kernel
theorem dX7_flock_73 : decode cX7_flock 73 = .ok (.getfield 10, 3) := by decide +kernel
theorem dX7_flock_76 : decode cX7_flock 76 = .ok (.invokevirtual 235, 3) := by decide +kernel
theorem dX7_flock_79 : decode cX7_flock 79 = .ok (.ifCond .eq 7, 3) := by decide +kernel
theorem dX7_flock_82 : decode cX7_flock 82 = .ok (.iconst 1, 1) := by decide +kernel
theorem dX7_flock_83 : decode cX7_flock 83 = .ok (.goto 4, 3) := by decide +kernel
theorem dX7_flock_86 : decode cX7_flock 86 = .ok (.iconst 0, 1) := by decide +kernel
theorem dX7_flock_87 : decode cX7_flock 87 = .ok (.ireturn, 1) := by decide +kernel
theorem dX7_flock_88 : decode cX7_flock 88 = .ok (.aload_n 0, 1) := by decide +kernel
theorem dX7_flock_89 : decode cX7_flock 89 = .ok (.getfield 55, 3) := by decide +kernel
theorem dX7_flock_92 : decode cX7_flock 92 = .ok (.aload_n 0, 1) := by decide +kernel
theorem dX7_flock_93 : decode cX7_flock 93 = .ok (.getfield 10, 3) := by decide +kernel
theorem dX7_flock_96 : decode cX7_flock 96 = .ok (.iconst 0, 1) := by decide +kernel
theorem dX7_flock_97 : decode cX7_flock 97 = .ok (.invokevirtual 243, 3) := by decide +kernel
theorem dX7_flock_100 : decode cX7_flock 100 = .ok (.ireturn, 1) := by decide +kernel
theorem dX7_flock_101 : decode cX7_flock 101 = .ok (.aload_n 0, 1) := by decide +kernel
theorem dX7_flock_102 : decode cX7_flock 102 = .ok (.getfield 55, 3) := by decide +kernel
theorem dX7_flock_105 : decode cX7_flock 105 = .ok (.aload_n 0, 1) := by decide +kernel
theorem dX7_flock_106 : decode cX7_flock 106 = .ok (.getfield 10, 3) := by decide +kernel
theorem dX7_flock_109 : decode cX7_flock 109 = .ok (.iconst 1, 1) := by decide +kernel
theorem dX7_flock_110 : decode cX7_flock 110 = .ok (.invokevirtual 243, 3) := by decide +kernel
theorem dX7_flock_113 : decode cX7_flock 113 = .ok (.ireturn, 1) := by decide +kernel
theorem dX7_flock_114 : decode cX7_flock 114 = .ok (.aload_n 0, 1) := by decide +kernel
theorem dX7_flock_115 : decode cX7_flock 115 = .ok (.getfield 55, 3) := by decide +kernel
theorem dX7_flock_118 : decode cX7_flock 118 = .ok (.iload_n 3, 1) := by decide +kernel
theorem dX7_flock_119 : decode cX7_flock 119 = .ok (.invokevirtual 247, 3) := by decide +kernel
theorem dX7_flock_122 : decode cX7_flock 122 = .ok (.ireturn, 1) := by decide +kernel
theorem dX7_takeRanked_0 : decode cX7_takeRanked 0 = .ok (.iconst 0, 1) := by decide +kernel
theorem dX7_takeRanked_1 : decode cX7_takeRanked 1 = .ok (.istore_n 3, 1) := by decide +kernel
theorem dX7_takeRanked_2 : decode cX7_takeRanked 2 = .ok (.iconst 1, 1) := by decide +kernel
theorem dX7_takeRanked_3 : decode cX7_takeRanked 3 = .ok (.istore 4, 2) := by decide +kernel
theorem dX7_takeRanked_5 : decode cX7_takeRanked 5 = .ok (.iload 4, 2) := by decide +kernel
theorem dX7_takeRanked_7 : decode cX7_takeRanked 7 = .ok (.iload_n 1, 1) := by decide +kernel
theorem dX7_takeRanked_8 : decode cX7_takeRanked 8 = .ok (.if_icmp .gt 54, 3) := by decide +kernel
theorem dX7_takeRanked_11 : decode cX7_takeRanked 11 = .ok (.iload_n 1, 1) := by decide +kernel
theorem dX7_takeRanked_12 : decode cX7_takeRanked 12 = .ok (.iload 4, 2) := by decide +kernel
theorem dX7_takeRanked_14 : decode cX7_takeRanked 14 = .ok (.irem, 1) := by decide +kernel
theorem dX7_takeRanked_15 : decode cX7_takeRanked 15 = .ok (.ifCond .ne 41, 3) := by decide +kernel
theorem dX7_takeRanked_18 : decode cX7_takeRanked 18 = .ok (.iload_n 1, 1) := by decide +kernel
theorem dX7_takeRanked_19 : decode cX7_takeRanked 19 = .ok (.iload 4, 2) := by decide +kernel
theorem dX7_takeRanked_21 : decode cX7_takeRanked 21 = .ok (.idiv, 1) := by decide +kernel
theorem dX7_takeRanked_22 : decode cX7_takeRanked 22 = .ok (.istore 5, 2) := by decide +kernel
theorem dX7_takeRanked_24 : decode cX7_takeRanked 24 = .ok (.iload_n 2, 1) := by decide +kernel
theorem dX7_takeRanked_25 : decode cX7_takeRanked 25 = .ok (.iload_n 3, 1) := by decide +kernel
theorem dX7_takeRanked_26 : decode cX7_takeRanked 26 = .ok (.isub, 1) := by decide +kernel
theorem dX7_takeRanked_27 : decode cX7_takeRanked 27 = .ok (.iload 5, 2) := by decide +kernel
theorem dX7_takeRanked_29 : decode cX7_takeRanked 29 = .ok (.if_icmp .ge 22, 3) := by decide +kernel
theorem dX7_takeRanked_32 : decode cX7_takeRanked 32 = .ok (.aload_n 0, 1) := by decide +kernel
theorem dX7_takeRanked_33 : decode cX7_takeRanked 33 = .ok (.getfield 55, 3) := by decide +kernel
theorem dX7_takeRanked_36 : decode cX7_takeRanked 36 = .ok (.iload 5, 2) := by decide +kernel
theorem dX7_takeRanked_38 : decode cX7_takeRanked 38 = .ok (.i2l, 1) := by decide +kernel
theorem dX7_takeRanked_39 : decode cX7_takeRanked 39 = .ok (.iload 4, 2) := by decide +kernel
theorem dX7_takeRanked_41 : decode cX7_takeRanked 41 = .ok (.i2l, 1) := by decide +kernel
theorem dX7_takeRanked_42 : decode cX7_takeRanked 42 = .ok (.iload_n 2, 1) := by decide +kernel
theorem dX7_takeRanked_43 : decode cX7_takeRanked 43 = .ok (.iload_n 3, 1) := by decide +kernel
theorem dX7_takeRanked_44 : decode cX7_takeRanked 44 = .ok (.isub, 1) := by decide +kernel
theorem dX7_takeRanked_45 : decode cX7_takeRanked 45 = .ok (.i2l, 1) := by decide +kernel
theorem dX7_takeRanked_46 : decode cX7_takeRanked 46 = .ok (.invokevirtual 232, 3) := by decide +kernel
theorem dX7_takeRanked_49 : decode cX7_takeRanked 49 = .ok (.iconst 1, 1) := by decide +kernel
theorem dX7_takeRanked_50 : decode cX7_takeRanked 50 = .ok (.ireturn, 1) := by decide +kernel
theorem dX7_takeRanked_51 : decode cX7_takeRanked 51 = .ok (.iload_n 3, 1) := by decide +kernel
theorem dX7_takeRanked_52 : decode cX7_takeRanked 52 = .ok (.iload 5, 2) := by decide +kernel
theorem dX7_takeRanked_54 : decode cX7_takeRanked 54 = .ok (.iadd, 1) := by decide +kernel
theorem dX7_takeRanked_55 : decode cX7_takeRanked 55 = .ok (.istore_n 3, 1) := by decide +kernel
theorem dX7_takeRanked_56 : decode cX7_takeRanked 56 = .ok (.iinc 4 1, 3) := by decide +kernel
theorem dX7_takeRanked_59 : decode cX7_takeRanked 59 = .ok (.goto (-54), 3) := by decide +kernel
theorem dX7_takeRanked_62 : decode cX7_takeRanked 62 = .ok (.iconst 0, 1) := by decide +kernel
theorem dX7_takeRanked_63 : decode cX7_takeRanked 63 = .ok (.ireturn, 1) := by decide +kernel
theorem dX7_has_0 : decode cX7_has 0 = .ok (.iload_n 1, 1) := by decide +kernel
theorem dX7_has_1 : decode cX7_has 1 = .ok (.iload_n 2, 1) := by decide +kernel
theorem dX7_has_2 : decode cX7_has 2 = .ok (.iload_n 3, 1) := by decide +kernel
theorem dX7_has_3 : decode cX7_has 3 = .ok (.invokestatic 251, 3) := by decide +kernel
theorem dX7_has_6 : decode cX7_has 6 = .ok (.ifCond .eq 11, 3) := by decide +kernel
theorem dX7_has_9 : decode cX7_has 9 = .ok (.iload 4, 2) := by decide +kernel
theorem dX7_has_11 : decode cX7_has 11 = .ok (.invokestatic 83, 3) := by decide +kernel
theorem dX7_has_14 : decode cX7_has 14 = .ok (.ifCond .ne 5, 3) := by decide +kernel
theorem dX7_has_17 : decode cX7_has 17 = .ok (.iconst (-1), 1) := by decide +kernel
theorem dX7_has_18 : decode cX7_has 18 = .ok (.ireturn, 1) := by decide +kernel
theorem dX7_has_19 : decode cX7_has 19 = .ok (.aload_n 0, 1) := by decide +kernel
theorem dX7_has_20 : decode cX7_has 20 = .ok (.getfield 55, 3) := by decide +kernel
theorem dX7_has_23 : decode cX7_has 23 = .ok (.iload_n 1, 1) := by decide +kernel
theorem dX7_has_24 : decode cX7_has 24 = .ok (.i2l, 1) := by decide +kernel
theorem dX7_has_25 : decode cX7_has 25 = .ok (.iload_n 2, 1) := by decide +kernel
theorem dX7_has_26 : decode cX7_has 26 = .ok (.i2l, 1) := by decide +kernel
theorem dX7_has_27 : decode cX7_has 27 = .ok (.iload_n 3, 1) := by decide +kernel
theorem dX7_has_28 : decode cX7_has 28 = .ok (.i2l, 1) := by decide +kernel
theorem dX7_has_29 : decode cX7_has 29 = .ok (.invokevirtual 232, 3) := by decide +kernel
theorem dX7_has_32 : decode cX7_has 32 = .ok (.aload_n 0, 1) := by decide +kernel
theorem dX7_has_33 : decode cX7_has 33 = .ok (.getfield 55, 3) := by decide +kernel
theorem dX7_has_36 : decode cX7_has 36 = .ok (.aload_n 0, 1) := by decide +kernel
theorem dX7_has_37 : decode cX7_has 37 = .ok (.getfield 16, 3) := by decide +kernel
theorem dX7_has_40 : decode cX7_has 40 = .ok (.iload 4, 2) := by decide +kernel
theorem dX7_has_42 : decode cX7_has 42 = .ok (.laload, 1) := by decide +kernel
theorem dX7_has_43 : decode cX7_has 43 = .ok (.invokestatic 96, 3) := by decide +kernel
theorem dX7_has_46 : decode cX7_has 46 = .ok (.aload_n 0, 1) := by decide +kernel
theorem dX7_has_47 : decode cX7_has 47 = .ok (.getfield 16, 3) := by decide +kernel
theorem dX7_has_50 : decode cX7_has 50 = .ok (.iload 4, 2) := by decide +kernel
theorem dX7_has_52 : decode cX7_has 52 = .ok (.laload, 1) := by decide +kernel
theorem dX7_has_53 : decode cX7_has 53 = .ok (.invokestatic 100, 3) := by decide +kernel
theorem dX7_has_56 : decode cX7_has 56 = .ok (.invokevirtual 255, 3) := by decide +kernel
theorem dX7_has_59 : decode cX7_has 59 = .ok (.ifCond .eq 7, 3) := by decide +kernel
theorem dX7_has_62 : decode cX7_has 62 = .ok (.iconst 1, 1) := by decide +kernel
theorem dX7_has_63 : decode cX7_has 63 = .ok (.goto 4, 3) := by decide +kernel
theorem dX7_has_66 : decode cX7_has 66 = .ok (.iconst 0, 1) := by decide +kernel
theorem dX7_has_67 : decode cX7_has 67 = .ok (.ireturn, 1) := by decide +kernel
theorem dX7_joined_0 : decode cX7_joined 0 = .ok (.iload_n 1, 1) := by decide +kernel
theorem dX7_joined_1 : decode cX7_joined 1 = .ok (.iload_n 2, 1) := by decide +kernel
theorem dX7_joined_2 : decode cX7_joined 2 = .ok (.iload_n 3, 1) := by decide +kernel
theorem dX7_joined_3 : decode cX7_joined 3 = .ok (.invokestatic 251, 3) := by decide +kernel
theorem dX7_joined_6 : decode cX7_joined 6 = .ok (.ifCond .eq 26, 3) := by decide +kernel
theorem dX7_joined_9 : decode cX7_joined 9 = .ok (.iload 4, 2) := by decide +kernel
theorem dX7_joined_11 : decode cX7_joined 11 = .ok (.iload 5, 2) := by decide +kernel
theorem dX7_joined_13 : decode cX7_joined 13 = .ok (.iload 6, 2) := by decide +kernel
theorem dX7_joined_15 : decode cX7_joined 15 = .ok (.invokestatic 251, 3) := by decide +kernel
theorem dX7_joined_18 : decode cX7_joined 18 = .ok (.ifCond .eq 14, 3) := by decide +kernel
theorem dX7_joined_21 : decode cX7_joined 21 = .ok (.iload 8, 2) := by decide +kernel
theorem dX7_joined_23 : decode cX7_joined 23 = .ok (.ifCond .lt 9, 3) := by decide +kernel
theorem dX7_joined_26 : decode cX7_joined 26 = .ok (.iload 8, 2) := by decide +kernel
theorem dX7_joined_28 : decode cX7_joined 28 = .ok (.iconst 2, 1) := by decide +kernel
theorem dX7_joined_29 : decode cX7_joined 29 = .ok (.if_icmp .le 5, 3) := by decide +kernel
theorem dX7_joined_32 : decode cX7_joined 32 = .ok (.iconst (-1), 1) := by decide +kernel
theorem dX7_joined_33 : decode cX7_joined 33 = .ok (.ireturn, 1) := by decide +kernel
theorem dX7_joined_34 : decode cX7_joined 34 = .ok (.aload_n 0, 1) := by decide +kernel
theorem dX7_joined_35 : decode cX7_joined 35 = .ok (.getfield 55, 3) := by decide +kernel
theorem dX7_joined_38 : decode cX7_joined 38 = .ok (.iload_n 1, 1) := by decide +kernel
theorem dX7_joined_39 : decode cX7_joined 39 = .ok (.i2l, 1) := by decide +kernel
theorem dX7_joined_40 : decode cX7_joined 40 = .ok (.iload_n 2, 1) := by decide +kernel
theorem dX7_joined_41 : decode cX7_joined 41 = .ok (.i2l, 1) := by decide +kernel
theorem dX7_joined_42 : decode cX7_joined 42 = .ok (.iload_n 3, 1) := by decide +kernel
theorem dX7_joined_43 : decode cX7_joined 43 = .ok (.i2l, 1) := by decide +kernel
theorem dX7_joined_44 : decode cX7_joined 44 = .ok (.invokevirtual 232, 3) := by decide +kernel
theorem dX7_joined_47 : decode cX7_joined 47 = .ok (.aload_n 0, 1) := by decide +kernel
theorem dX7_joined_48 : decode cX7_joined 48 = .ok (.getfield 59, 3) := by decide +kernel
theorem dX7_joined_51 : decode cX7_joined 51 = .ok (.iload 4, 2) := by decide +kernel
theorem dX7_joined_53 : decode cX7_joined 53 = .ok (.i2l, 1) := by decide +kernel
theorem dX7_joined_54 : decode cX7_joined 54 = .ok (.iload 5, 2) := by decide +kernel
theorem dX7_joined_56 : decode cX7_joined 56 = .ok (.i2l, 1) := by decide +kernel
theorem dX7_joined_57 : decode cX7_joined 57 = .ok (.iload 6, 2) := by decide +kernel
theorem dX7_joined_59 : decode cX7_joined 59 = .ok (.i2l, 1) := by decide +kernel
theorem dX7_joined_60 : decode cX7_joined 60 = .ok (.invokevirtual 232, 3) := by decide +kernel
theorem dX7_joined_63 : decode cX7_joined 63 = .ok (.iload 7, 2) := by decide +kernel
theorem dX7_joined_65 : decode cX7_joined 65 = .ok (.ifCond .eq 17, 3) := by decide +kernel
theorem dX7_joined_68 : decode cX7_joined 68 = .ok (.aload_n 0, 1) := by decide +kernel
theorem dX7_joined_69 : decode cX7_joined 69 = .ok (.getfield 55, 3) := by decide +kernel
theorem dX7_joined_72 : decode cX7_joined 72 = .ok (.aload_n 0, 1) := by decide +kernel
theorem dX7_joined_73 : decode cX7_joined 73 = .ok (.getfield 59, 3) := by decide +kernel
theorem dX7_joined_76 : decode cX7_joined 76 = .ok (.invokevirtual 258, 3) := by decide +kernel
theorem dX7_joined_79 : decode cX7_joined 79 = .ok (.goto 27, 3) := by decide +kernel
theorem dX7_joined_82 : decode cX7_joined 82 = .ok (.aload_n 0, 1) := by decide +kernel
theorem dX7_joined_83 : decode cX7_joined 83 = .ok (.getfield 55, 3) := by decide +kernel
theorem dX7_joined_86 : decode cX7_joined 86 = .ok (.iload 4, 2) := by decide +kernel
theorem dX7_joined_88 : decode cX7_joined 88 = .ok (.i2l, 1) := by decide +kernel
theorem dX7_joined_89 : decode cX7_joined 89 = .ok (.lconst 0, 1) := by decide +kernel
theorem dX7_joined_90 : decode cX7_joined 90 = .ok (.invokevirtual 262, 3) := by decide +kernel
theorem dX7_joined_93 : decode cX7_joined 93 = .ok (.aload_n 0, 1) := by decide +kernel
theorem dX7_joined_94 : decode cX7_joined 94 = .ok (.getfield 55, 3) := by decide +kernel
theorem dX7_joined_97 : decode cX7_joined 97 = .ok (.iload 6, 2) := by decide +kernel
theorem dX7_joined_99 : decode cX7_joined 99 = .ok (.i2l, 1) := by decide +kernel
theorem dX7_joined_100 : decode cX7_joined 100 = .ok (.iload 5, 2) := by decide +kernel
theorem dX7_joined_102 : decode cX7_joined 102 = .ok (.i2l, 1) := by decide +kernel
theorem dX7_joined_103 : decode cX7_joined 103 = .ok (.invokevirtual 262, 3) := by decide +kernel
theorem dX7_joined_106 : decode cX7_joined 106 = .ok (.aload_n 0, 1) := by decide +kernel
theorem dX7_joined_107 : decode cX7_joined 107 = .ok (.getfield 55, 3) := by decide +kernel
theorem dX7_joined_110 : decode cX7_joined 110 = .ok (.sipush 200, 3) := by decide +kernel
theorem dX7_joined_113 : decode cX7_joined 113 = .ok (.invokevirtual 265, 3) := by decide +kernel
theorem dX7_joined_116 : decode cX7_joined 116 = .ok (.ifCond .eq 8, 3) := by decide +kernel
theorem dX7_joined_119 : decode cX7_joined 119 = .ok (.bipush (-2), 2) := by decide +kernel
theorem dX7_joined_121 : decode cX7_joined 121 = .ok (.goto 12, 3) := by decide +kernel
theorem dX7_joined_124 : decode cX7_joined 124 = .ok (.aload_n 0, 1) := by decide +kernel
theorem dX7_joined_125 : decode cX7_joined 125 = .ok (.getfield 55, 3) := by decide +kernel
theorem dX7_joined_128 : decode cX7_joined 128 = .ok (.iload 8, 2) := by decide +kernel
theorem dX7_joined_130 : decode cX7_joined 130 = .ok (.invokevirtual 247, 3) := by decide +kernel
theorem dX7_joined_133 : decode cX7_joined 133 = .ok (.ireturn, 1) := by decide +kernel
theorem dX7_turned_0 : decode cX7_turned 0 = .ok (.iload_n 1, 1) := by decide +kernel
theorem dX7_turned_1 : decode cX7_turned 1 = .ok (.iload_n 2, 1) := by decide +kernel
theorem dX7_turned_2 : decode cX7_turned 2 = .ok (.iload_n 3, 1) := by decide +kernel
theorem dX7_turned_3 : decode cX7_turned 3 = .ok (.invokestatic 251, 3) := by decide +kernel
theorem dX7_turned_6 : decode cX7_turned 6 = .ok (.ifCond .eq 22, 3) := by decide +kernel
theorem dX7_turned_9 : decode cX7_turned 9 = .ok (.iload 4, 2) := by decide +kernel
theorem dX7_turned_11 : decode cX7_turned 11 = .ok (.invokestatic 83, 3) := by decide +kernel
theorem dX7_turned_14 : decode cX7_turned 14 = .ok (.ifCond .eq 14, 3) := by decide +kernel
theorem dX7_turned_17 : decode cX7_turned 17 = .ok (.iload 5, 2) := by decide +kernel
theorem dX7_turned_19 : decode cX7_turned 19 = .ok (.ifCond .lt 9, 3) := by decide +kernel
theorem dX7_turned_22 : decode cX7_turned 22 = .ok (.iload 5, 2) := by decide +kernel
theorem dX7_turned_24 : decode cX7_turned 24 = .ok (.iconst 2, 1) := by decide +kernel
theorem dX7_turned_25 : decode cX7_turned 25 = .ok (.if_icmp .le 5, 3) := by decide +kernel
theorem dX7_turned_28 : decode cX7_turned 28 = .ok (.iconst (-1), 1) := by decide +kernel
theorem dX7_turned_29 : decode cX7_turned 29 = .ok (.ireturn, 1) := by decide +kernel
theorem dX7_turned_30 : decode cX7_turned 30 = .ok (.aload_n 0, 1) := by decide +kernel
theorem dX7_turned_31 : decode cX7_turned 31 = .ok (.getfield 16, 3) := by decide +kernel
theorem dX7_turned_34 : decode cX7_turned 34 = .ok (.iload 4, 2) := by decide +kernel
theorem dX7_turned_36 : decode cX7_turned 36 = .ok (.laload, 1) := by decide +kernel
theorem dX7_turned_37 : decode cX7_turned 37 = .ok (.lconst 0, 1) := by decide +kernel
theorem dX7_turned_38 : decode cX7_turned 38 = .ok (.lcmp, 1) := by decide +kernel
theorem dX7_turned_39 : decode cX7_turned 39 = .ok (.ifCond .ne 6, 3) := by decide +kernel
theorem dX7_turned_42 : decode cX7_turned 42 = .ok (.bipush (-2), 2) := by decide +kernel
theorem dX7_turned_44 : decode cX7_turned 44 = .ok (.ireturn, 1) := by decide +kernel
theorem dX7_turned_45 : decode cX7_turned 45 = .ok (.aload_n 0, 1) := by decide +kernel
theorem dX7_turned_46 : decode cX7_turned 46 = .ok (.getfield 55, 3) := by decide +kernel
theorem dX7_turned_49 : decode cX7_turned 49 = .ok (.lconst 0, 1) := by decide +kernel
theorem dX7_turned_50 : decode cX7_turned 50 = .ok (.lconst 0, 1) := by decide +kernel
theorem dX7_turned_51 : decode cX7_turned 51 = .ok (.lconst 0, 1) := by decide +kernel
theorem dX7_turned_52 : decode cX7_turned 52 = .ok (.invokevirtual 232, 3) := by decide +kernel
theorem dX7_turned_55 : decode cX7_turned 55 = .ok (.aload_n 0, 1) := by decide +kernel
theorem dX7_turned_56 : decode cX7_turned 56 = .ok (.getfield 55, 3) := by decide +kernel
theorem dX7_turned_59 : decode cX7_turned 59 = .ok (.aload_n 0, 1) := by decide +kernel
theorem dX7_turned_60 : decode cX7_turned 60 = .ok (.getfield 10, 3) := by decide +kernel
theorem dX7_turned_63 : decode cX7_turned 63 = .ok (.iload_n 1, 1) := by decide +kernel
theorem dX7_turned_64 : decode cX7_turned 64 = .ok (.i2l, 1) := by decide +kernel
theorem dX7_turned_65 : decode cX7_turned 65 = .ok (.lconst 0, 1) := by decide +kernel
theorem dX7_turned_66 : decode cX7_turned 66 = .ok (.invokestatic 91, 3) := by decide +kernel
theorem dX7_turned_69 : decode cX7_turned 69 = .ok (.aload_n 0, 1) := by decide +kernel
theorem dX7_turned_70 : decode cX7_turned 70 = .ok (.getfield 16, 3) := by decide +kernel
theorem dX7_turned_73 : decode cX7_turned 73 = .ok (.iload 4, 2) := by decide +kernel
theorem dX7_turned_75 : decode cX7_turned 75 = .ok (.laload, 1) := by decide +kernel
theorem dX7_turned_76 : decode cX7_turned 76 = .ok (.invokevirtual 122, 3) := by decide +kernel
theorem dX7_turned_79 : decode cX7_turned 79 = .ok (.invokevirtual 268, 3) := by decide +kernel
theorem dX7_turned_82 : decode cX7_turned 82 = .ok (.aload_n 0, 1) := by decide +kernel
theorem dX7_turned_83 : decode cX7_turned 83 = .ok (.getfield 55, 3) := by decide +kernel
theorem dX7_turned_86 : decode cX7_turned 86 = .ok (.aload_n 0, 1) := by decide +kernel
theorem dX7_turned_87 : decode cX7_turned 87 = .ok (.getfield 10, 3) := by decide +kernel
theorem dX7_turned_90 : decode cX7_turned 90 = .ok (.iload_n 3, 1) := by decide +kernel
theorem dX7_turned_91 : decode cX7_turned 91 = .ok (.i2l, 1) := by decide +kernel
theorem dX7_turned_92 : decode cX7_turned 92 = .ok (.iload_n 2, 1) := by decide +kernel
theorem dX7_turned_93 : decode cX7_turned 93 = .ok (.i2l, 1) := by decide +kernel
theorem dX7_turned_94 : decode cX7_turned 94 = .ok (.invokestatic 91, 3) := by decide +kernel
theorem dX7_turned_97 : decode cX7_turned 97 = .ok (.aload_n 0, 1) := by decide +kernel
theorem dX7_turned_98 : decode cX7_turned 98 = .ok (.getfield 16, 3) := by decide +kernel
theorem dX7_turned_101 : decode cX7_turned 101 = .ok (.iload 4, 2) := by decide +kernel
theorem dX7_turned_103 : decode cX7_turned 103 = .ok (.laload, 1) := by decide +kernel
theorem dX7_turned_104 : decode cX7_turned 104 = .ok (.invokevirtual 122, 3) := by decide +kernel
theorem dX7_turned_107 : decode cX7_turned 107 = .ok (.invokevirtual 268, 3) := by decide +kernel
theorem dX7_turned_110 : decode cX7_turned 110 = .ok (.aload_n 0, 1) := by decide +kernel
theorem dX7_turned_111 : decode cX7_turned 111 = .ok (.getfield 55, 3) := by decide +kernel
theorem dX7_turned_114 : decode cX7_turned 114 = .ok (.sipush 200, 3) := by decide +kernel
theorem dX7_turned_117 : decode cX7_turned 117 = .ok (.invokevirtual 265, 3) := by decide +kernel
theorem dX7_turned_120 : decode cX7_turned 120 = .ok (.ifCond .eq 8, 3) := by decide +kernel
theorem dX7_turned_123 : decode cX7_turned 123 = .ok (.bipush (-2), 2) := by decide +kernel
theorem dX7_turned_125 : decode cX7_turned 125 = .ok (.goto 12, 3) := by decide +kernel
theorem dX7_turned_128 : decode cX7_turned 128 = .ok (.aload_n 0, 1) := by decide +kernel
theorem dX7_turned_129 : decode cX7_turned 129 = .ok (.getfield 55, 3) := by decide +kernel
theorem dX7_turned_132 : decode cX7_turned 132 = .ok (.iload 5, 2) := by decide +kernel
theorem dX7_turned_134 : decode cX7_turned 134 = .ok (.invokevirtual 247, 3) := by decide +kernel
theorem dX7_turned_137 : decode cX7_turned 137 = .ok (.ireturn, 1) := by decide +kernel
theorem dX7_where_0 : decode cX7_where 0 = .ok (.iload_n 1, 1) := by decide +kernel
theorem dX7_where_1 : decode cX7_where 1 = .ok (.invokestatic 83, 3) := by decide +kernel
theorem dX7_where_4 : decode cX7_where 4 = .ok (.ifCond .ne 7, 3) := by decide +kernel
theorem dX7_where_7 : decode cX7_where 7 = .ok (.ldc2_w 106, 3) := by decide +kernel
theorem dX7_where_10 : decode cX7_where 10 = .ok (.lreturn, 1) := by decide +kernel
theorem dX7_where_11 : decode cX7_where 11 = .ok (.aload_n 0, 1) := by decide +kernel
theorem dX7_where_12 : decode cX7_where 12 = .ok (.getfield 16, 3) := by decide +kernel
theorem dX7_where_15 : decode cX7_where 15 = .ok (.iload_n 1, 1) := by decide +kernel
theorem dX7_where_16 : decode cX7_where 16 = .ok (.laload, 1) := by decide +kernel
theorem dX7_where_17 : decode cX7_where 17 = .ok (.lconst 0, 1) := by decide +kernel
theorem dX7_where_18 : decode cX7_where 18 = .ok (.lcmp, 1) := by decide +kernel
theorem dX7_where_19 : decode cX7_where 19 = .ok (.ifCond .ne 7, 3) := by decide +kernel
theorem dX7_where_22 : decode cX7_where 22 = .ok (.ldc2_w 271, 3) := by decide +kernel
theorem dX7_where_25 : decode cX7_where 25 = .ok (.lreturn, 1) := by decide +kernel
theorem dX7_where_26 : decode cX7_where 26 = .ok (.aload_n 0, 1) := by decide +kernel
theorem dX7_where_27 : decode cX7_where 27 = .ok (.getfield 65, 3) := by decide +kernel
theorem dX7_where_30 : decode cX7_where 30 = .ok (.aload_n 0, 1) := by decide +kernel
theorem dX7_where_31 : decode cX7_where 31 = .ok (.getfield 16, 3) := by decide +kernel
theorem dX7_where_34 : decode cX7_where 34 = .ok (.iload_n 1, 1) := by decide +kernel
theorem dX7_where_35 : decode cX7_where 35 = .ok (.laload, 1) := by decide +kernel
theorem dX7_where_36 : decode cX7_where 36 = .ok (.invokevirtual 273, 3) := by decide +kernel
theorem dX7_where_39 : decode cX7_where 39 = .ok (.aload_n 0, 1) := by decide +kernel
theorem dX7_where_40 : decode cX7_where 40 = .ok (.getfield 55, 3) := by decide +kernel
theorem dX7_where_43 : decode cX7_where 43 = .ok (.lconst 0, 1) := by decide +kernel
theorem dX7_where_44 : decode cX7_where 44 = .ok (.lconst 0, 1) := by decide +kernel
theorem dX7_where_45 : decode cX7_where 45 = .ok (.lconst 0, 1) := by decide +kernel
theorem dX7_where_46 : decode cX7_where 46 = .ok (.invokevirtual 232, 3) := by decide +kernel
theorem dX7_where_49 : decode cX7_where 49 = .ok (.iconst 0, 1) := by decide +kernel
theorem dX7_where_50 : decode cX7_where 50 = .ok (.istore_n 2, 1) := by decide +kernel
theorem dX7_where_51 : decode cX7_where 51 = .ok (.iload_n 2, 1) := by decide +kernel
theorem dX7_where_52 : decode cX7_where 52 = .ok (.aload_n 0, 1) := by decide +kernel
theorem dX7_where_53 : decode cX7_where 53 = .ok (.getfield 65, 3) := by decide +kernel
theorem dX7_where_56 : decode cX7_where 56 = .ok (.getfield 276, 3) := by decide +kernel
theorem dX7_where_59 : decode cX7_where 59 = .ok (.if_icmp .ge 25, 3) := by decide +kernel
theorem dX7_where_62 : decode cX7_where 62 = .ok (.aload_n 0, 1) := by decide +kernel
theorem dX7_where_63 : decode cX7_where 63 = .ok (.getfield 55, 3) := by decide +kernel
theorem dX7_where_66 : decode cX7_where 66 = .ok (.aload_n 0, 1) := by decide +kernel
theorem dX7_where_67 : decode cX7_where 67 = .ok (.getfield 65, 3) := by decide +kernel
theorem dX7_where_70 : decode cX7_where 70 = .ok (.getfield 277, 3) := by decide +kernel
theorem dX7_where_73 : decode cX7_where 73 = .ok (.iload_n 2, 1) := by decide +kernel
theorem dX7_where_74 : decode cX7_where 74 = .ok (.laload, 1) := by decide +kernel
theorem dX7_where_75 : decode cX7_where 75 = .ok (.invokevirtual 268, 3) := by decide +kernel
theorem dX7_where_78 : decode cX7_where 78 = .ok (.iinc 2 1, 3) := by decide +kernel
theorem dX7_where_81 : decode cX7_where 81 = .ok (.goto (-30), 3) := by decide +kernel
theorem dX7_where_84 : decode cX7_where 84 = .ok (.aload_n 0, 1) := by decide +kernel
theorem dX7_where_85 : decode cX7_where 85 = .ok (.getfield 55, 3) := by decide +kernel
theorem dX7_where_88 : decode cX7_where 88 = .ok (.getfield 280, 3) := by decide +kernel
theorem dX7_where_91 : decode cX7_where 91 = .ok (.aload_n 0, 1) := by decide +kernel
theorem dX7_where_92 : decode cX7_where 92 = .ok (.getfield 55, 3) := by decide +kernel
theorem dX7_where_95 : decode cX7_where 95 = .ok (.getfield 283, 3) := by decide +kernel
theorem dX7_where_98 : decode cX7_where 98 = .ok (.lmul, 1) := by decide +kernel
theorem dX7_where_99 : decode cX7_where 99 = .ok (.lstore_n 2, 1) := by decide +kernel
theorem dX7_where_100 : decode cX7_where 100 = .ok (.lload_n 2, 1) := by decide +kernel
theorem dX7_where_101 : decode cX7_where 101 = .ok (.lconst 0, 1) := by decide +kernel
theorem dX7_where_102 : decode cX7_where 102 = .ok (.lcmp, 1) := by decide +kernel
theorem dX7_where_103 : decode cX7_where 103 = .ok (.ifCond .ne 9, 3) := by decide +kernel
theorem dX7_where_106 : decode cX7_where 106 = .ok (.ldc2_w 286, 3) := by decide +kernel
theorem dX7_where_109 : decode cX7_where 109 = .ok (.goto 4, 3) := by decide +kernel
theorem dX7_where_112 : decode cX7_where 112 = .ok (.lload_n 2, 1) := by decide +kernel
theorem dX7_where_113 : decode cX7_where 113 = .ok (.lreturn, 1) := by decide +kernel
theorem dX7_leaps_0 : decode cX7_leaps 0 = .ok (.iload_n 1, 1) := by decide +kernel
theorem dX7_leaps_1 : decode cX7_leaps 1 = .ok (.invokestatic 83, 3) := by decide +kernel
theorem dX7_leaps_4 : decode cX7_leaps 4 = .ok (.ifCond .eq 10, 3) := by decide +kernel
theorem dX7_leaps_7 : decode cX7_leaps 7 = .ok (.iload_n 2, 1) := by decide +kernel
theorem dX7_leaps_8 : decode cX7_leaps 8 = .ok (.invokestatic 83, 3) := by decide +kernel
theorem dX7_leaps_11 : decode cX7_leaps 11 = .ok (.ifCond .ne 5, 3) := by decide +kernel
theorem dX7_leaps_14 : decode cX7_leaps 14 = .ok (.iconst (-1), 1) := by decide +kernel
theorem dX7_leaps_15 : decode cX7_leaps 15 = .ok (.ireturn, 1) := by decide +kernel
theorem dX7_leaps_16 : decode cX7_leaps 16 = .ok (.aload_n 0, 1) := by decide +kernel
theorem dX7_leaps_17 : decode cX7_leaps 17 = .ok (.getfield 16, 3) := by decide +kernel
theorem dX7_leaps_20 : decode cX7_leaps 20 = .ok (.iload_n 1, 1) := by decide +kernel
theorem dX7_leaps_21 : decode cX7_leaps 21 = .ok (.laload, 1) := by decide +kernel
theorem dX7_leaps_22 : decode cX7_leaps 22 = .ok (.lconst 0, 1) := by decide +kernel
theorem dX7_leaps_23 : decode cX7_leaps 23 = .ok (.lcmp, 1) := by decide +kernel
theorem dX7_leaps_24 : decode cX7_leaps 24 = .ok (.ifCond .ne 6, 3) := by decide +kernel
theorem dX7_leaps_27 : decode cX7_leaps 27 = .ok (.bipush (-2), 2) := by decide +kernel
theorem dX7_leaps_29 : decode cX7_leaps 29 = .ok (.ireturn, 1) := by decide +kernel
theorem dX7_leaps_30 : decode cX7_leaps 30 = .ok (.aload_n 0, 1) := by decide +kernel
theorem dX7_leaps_31 : decode cX7_leaps 31 = .ok (.getfield 65, 3) := by decide +kernel
theorem dX7_leaps_34 : decode cX7_leaps 34 = .ok (.aload_n 0, 1) := by decide +kernel
theorem dX7_leaps_35 : decode cX7_leaps 35 = .ok (.getfield 16, 3) := by decide +kernel
theorem dX7_leaps_38 : decode cX7_leaps 38 = .ok (.iload_n 1, 1) := by decide +kernel
theorem dX7_leaps_39 : decode cX7_leaps 39 = .ok (.laload, 1) := by decide +kernel
theorem dX7_leaps_40 : decode cX7_leaps 40 = .ok (.invokevirtual 273, 3) := by decide +kernel
theorem dX7_leaps_43 : decode cX7_leaps 43 = .ok (.aload_n 0, 1) := by decide +kernel
theorem dX7_leaps_44 : decode cX7_leaps 44 = .ok (.getfield 65, 3) := by decide +kernel
theorem dX7_leaps_47 : decode cX7_leaps 47 = .ok (.aload_n 0, 1) := by decide +kernel
theorem dX7_leaps_48 : decode cX7_leaps 48 = .ok (.getfield 16, 3) := by decide +kernel
theorem dX7_leaps_51 : decode cX7_leaps 51 = .ok (.iload_n 2, 1) := by decide +kernel
theorem dX7_leaps_52 : decode cX7_leaps 52 = .ok (.laload, 1) := by decide +kernel
theorem dX7_leaps_53 : decode cX7_leaps 53 = .ok (.invokevirtual 288, 3) := by decide +kernel
theorem dX7_leaps_56 : decode cX7_leaps 56 = .ok (.ireturn, 1) := by decide +kernel
theorem dX7_isRegister_0 : decode cX7_isRegister 0 = .ok (.iload_n 0, 1) := by decide +kernel
theorem dX7_isRegister_1 : decode cX7_isRegister 1 = .ok (.ifCond .lt 13, 3) := by decide +kernel
theorem dX7_isRegister_4 : decode cX7_isRegister 4 = .ok (.iload_n 0, 1) := by decide +kernel
theorem dX7_isRegister_5 : decode cX7_isRegister 5 = .ok (.bipush 8, 2) := by decide +kernel
theorem dX7_isRegister_7 : decode cX7_isRegister 7 = .ok (.if_icmp .ge 7, 3) := by decide +kernel
theorem dX7_isRegister_10 : decode cX7_isRegister 10 = .ok (.iconst 1, 1) := by decide +kernel
theorem dX7_isRegister_11 : decode cX7_isRegister 11 = .ok (.goto 4, 3) := by decide +kernel
theorem dX7_isRegister_14 : decode cX7_isRegister 14 = .ok (.iconst 0, 1) := by decide +kernel
theorem dX7_isRegister_15 : decode cX7_isRegister 15 = .ok (.ireturn, 1) := by decide +kernel
theorem dX7_isNear_0 : decode cX7_isNear 0 = .ok (.lload_n 0, 1) := by decide +kernel
theorem dX7_isNear_1 : decode cX7_isNear 1 = .ok (.ldc2_w 291, 3) := by decide +kernel
theorem dX7_isNear_4 : decode cX7_isNear 4 = .ok (.lcmp, 1) := by decide +kernel
theorem dX7_isNear_5 : decode cX7_isNear 5 = .ok (.ifCond .lt 15, 3) := by decide +kernel
theorem dX7_isNear_8 : decode cX7_isNear 8 = .ok (.lload_n 0, 1) := by decide +kernel
theorem dX7_isNear_9 : decode cX7_isNear 9 = .ok (.ldc2_w 293, 3) := by decide +kernel
theorem dX7_isNear_12 : decode cX7_isNear 12 = .ok (.lcmp, 1) := by decide +kernel
theorem dX7_isNear_13 : decode cX7_isNear 13 = .ok (.ifCond .gt 7, 3) := by decide +kernel
theorem dX7_isNear_16 : decode cX7_isNear 16 = .ok (.iconst 1, 1) := by decide +kernel
theorem dX7_isNear_17 : decode cX7_isNear 17 = .ok (.goto 4, 3) := by decide +kernel
theorem dX7_isNear_20 : decode cX7_isNear 20 = .ok (.iconst 0, 1) := by decide +kernel
theorem dX7_isNear_21 : decode cX7_isNear 21 = .ok (.ireturn, 1) := by decide +kernel
theorem dX7_fits_0 : decode cX7_fits 0 = .ok (.lload_n 0, 1) := by decide +kernel
theorem dX7_fits_1 : decode cX7_fits 1 = .ok (.invokestatic 96, 3) := by decide +kernel
theorem dX7_fits_4 : decode cX7_fits 4 = .ok (.invokestatic 87, 3) := by decide +kernel
theorem dX7_fits_7 : decode cX7_fits 7 = .ok (.ifCond .eq 17, 3) := by decide +kernel
theorem dX7_fits_10 : decode cX7_fits 10 = .ok (.lload_n 0, 1) := by decide +kernel
theorem dX7_fits_11 : decode cX7_fits 11 = .ok (.invokestatic 100, 3) := by decide +kernel
theorem dX7_fits_14 : decode cX7_fits 14 = .ok (.invokestatic 87, 3) := by decide +kernel
theorem dX7_fits_17 : decode cX7_fits 17 = .ok (.ifCond .eq 7, 3) := by decide +kernel
theorem dX7_fits_20 : decode cX7_fits 20 = .ok (.iconst 1, 1) := by decide +kernel
theorem dX7_fits_21 : decode cX7_fits 21 = .ok (.goto 4, 3) := by decide +kernel
theorem dX7_fits_24 : decode cX7_fits 24 = .ok (.iconst 0, 1) := by decide +kernel
theorem dX7_fits_25 : decode cX7_fits 25 = .ok (.ireturn, 1) := by decide +kernel
theorem dX7_isFlock_0 : decode cX7_isFlock 0 = .ok (.iload_n 0, 1) := by decide +kernel
theorem dX7_isFlock_1 : decode cX7_isFlock 1 = .ok (.iconst 1, 1) := by decide +kernel
theorem dX7_isFlock_2 : decode cX7_isFlock 2 = .ok (.if_icmp .lt 35, 3) := by decide +kernel
theorem dX7_isFlock_5 : decode cX7_isFlock 5 = .ok (.iload_n 0, 1) := by decide +kernel
theorem dX7_isFlock_6 : decode cX7_isFlock 6 = .ok (.sipush 200, 3) := by decide +kernel
theorem dX7_isFlock_9 : decode cX7_isFlock 9 = .ok (.if_icmp .gt 28, 3) := by decide +kernel
theorem dX7_isFlock_12 : decode cX7_isFlock 12 = .ok (.iload_n 1, 1) := by decide +kernel
theorem dX7_isFlock_13 : decode cX7_isFlock 13 = .ok (.iconst 1, 1) := by decide +kernel
theorem dX7_isFlock_14 : decode cX7_isFlock 14 = .ok (.if_icmp .lt 23, 3) := by decide +kernel
theorem dX7_isFlock_17 : decode cX7_isFlock 17 = .ok (.iload_n 1, 1) := by decide +kernel
theorem dX7_isFlock_18 : decode cX7_isFlock 18 = .ok (.sipush 200, 3) := by decide +kernel
theorem dX7_isFlock_21 : decode cX7_isFlock 21 = .ok (.if_icmp .gt 16, 3) := by decide +kernel
theorem dX7_isFlock_24 : decode cX7_isFlock 24 = .ok (.iload_n 2, 1) := by decide +kernel
theorem dX7_isFlock_25 : decode cX7_isFlock 25 = .ok (.ifCond .lt 12, 3) := by decide +kernel
theorem dX7_isFlock_28 : decode cX7_isFlock 28 = .ok (.iload_n 2, 1) := by decide +kernel
theorem dX7_isFlock_29 : decode cX7_isFlock 29 = .ok (.iload_n 0, 1) := by decide +kernel
theorem dX7_isFlock_30 : decode cX7_isFlock 30 = .ok (.if_icmp .ge 7, 3) := by decide +kernel
theorem dX7_isFlock_33 : decode cX7_isFlock 33 = .ok (.iconst 1, 1) := by decide +kernel
theorem dX7_isFlock_34 : decode cX7_isFlock 34 = .ok (.goto 4, 3) := by decide +kernel
theorem dX7_isFlock_37 : decode cX7_isFlock 37 = .ok (.iconst 0, 1) := by decide +kernel
theorem dX7_isFlock_38 : decode cX7_isFlock 38 = .ok (.ireturn, 1) := by decide +kernel
theorem dX7_isOfSize_0 : decode cX7_isOfSize 0 = .ok (.aload_n 0, 1) := by decide +kernel
theorem dX7_isOfSize_1 : decode cX7_isOfSize 1 = .ok (.getfield 10, 3) := by decide +kernel
theorem dX7_isOfSize_4 : decode cX7_isOfSize 4 = .ok (.lload_n 1, 1) := by decide +kernel
theorem dX7_isOfSize_5 : decode cX7_isOfSize 5 = .ok (.invokevirtual 103, 3) := by decide +kernel
theorem dX7_isOfSize_8 : decode cX7_isOfSize 8 = .ok (.lstore 4, 2) := by decide +kernel
theorem dX7_isOfSize_10 : decode cX7_isOfSize 10 = .ok (.lload 4, 2) := by decide +kernel
theorem dX7_isOfSize_12 : decode cX7_isOfSize 12 = .ok (.ldc2_w 295, 3) := by decide +kernel
theorem dX7_isOfSize_15 : decode cX7_isOfSize 15 = .ok (.lcmp, 1) := by decide +kernel
theorem dX7_isOfSize_16 : decode cX7_isOfSize 16 = .ok (.ifCond .lt 15, 3) := by decide +kernel
theorem dX7_isOfSize_19 : decode cX7_isOfSize 19 = .ok (.lload 4, 2) := by decide +kernel
theorem dX7_isOfSize_21 : decode cX7_isOfSize 21 = .ok (.iload_n 3, 1) := by decide +kernel
theorem dX7_isOfSize_22 : decode cX7_isOfSize 22 = .ok (.i2l, 1) := by decide +kernel
theorem dX7_isOfSize_23 : decode cX7_isOfSize 23 = .ok (.lcmp, 1) := by decide +kernel
theorem dX7_isOfSize_24 : decode cX7_isOfSize 24 = .ok (.ifCond .gt 7, 3) := by decide +kernel
theorem dX7_isOfSize_27 : decode cX7_isOfSize 27 = .ok (.iconst 1, 1) := by decide +kernel
theorem dX7_isOfSize_28 : decode cX7_isOfSize 28 = .ok (.goto 4, 3) := by decide +kernel
theorem dX7_isOfSize_31 : decode cX7_isOfSize 31 = .ok (.iconst 0, 1) := by decide +kernel
theorem dX7_isOfSize_32 : decode cX7_isOfSize 32 = .ok (.ireturn, 1) := by decide +kernel
theorem dX7_put_0 : decode cX7_put 0 = .ok (.iload_n 1, 1) := by decide +kernel
theorem dX7_put_1 : decode cX7_put 1 = .ok (.invokestatic 83, 3) := by decide +kernel
theorem dX7_put_4 : decode cX7_put 4 = .ok (.ifCond .eq 10, 3) := by decide +kernel
theorem dX7_put_7 : decode cX7_put 7 = .ok (.lload_n 2, 1) := by decide +kernel
theorem dX7_put_8 : decode cX7_put 8 = .ok (.invokestatic 148, 3) := by decide +kernel
theorem dX7_put_11 : decode cX7_put 11 = .ok (.ifCond .ne 6, 3) := by decide +kernel
theorem dX7_put_14 : decode cX7_put 14 = .ok (.bipush (-3), 2) := by decide +kernel
theorem dX7_put_16 : decode cX7_put 16 = .ok (.ireturn, 1) := by decide +kernel
theorem dX7_put_17 : decode cX7_put 17 = .ok (.aload_n 0, 1) := by decide +kernel
theorem dX7_put_18 : decode cX7_put 18 = .ok (.getfield 16, 3) := by decide +kernel
theorem dX7_put_21 : decode cX7_put 21 = .ok (.iload_n 1, 1) := by decide +kernel
theorem dX7_put_22 : decode cX7_put 22 = .ok (.lload_n 2, 1) := by decide +kernel
theorem dX7_put_23 : decode cX7_put 23 = .ok (.lastore, 1) := by decide +kernel
theorem dX7_put_24 : decode cX7_put 24 = .ok (.iconst 0, 1) := by decide +kernel
theorem dX7_put_25 : decode cX7_put 25 = .ok (.ireturn, 1) := by decide +kernel
theorem dX7_ratio_0 : decode cX7_ratio 0 = .ok (.lload_n 2, 1) := by decide +kernel
theorem dX7_ratio_1 : decode cX7_ratio 1 = .ok (.lconst 0, 1) := by decide +kernel
theorem dX7_ratio_2 : decode cX7_ratio 2 = .ok (.lcmp, 1) := by decide +kernel
theorem dX7_ratio_3 : decode cX7_ratio 3 = .ok (.ifCond .ne 7, 3) := by decide +kernel
theorem dX7_ratio_6 : decode cX7_ratio 6 = .ok (.lconst 0, 1) := by decide +kernel
theorem dX7_ratio_7 : decode cX7_ratio 7 = .ok (.goto 6, 3) := by decide +kernel
theorem dX7_ratio_10 : decode cX7_ratio 10 = .ok (.lload_n 0, 1) := by decide +kernel
theorem dX7_ratio_11 : decode cX7_ratio 11 = .ok (.lload_n 2, 1) := by decide +kernel
theorem dX7_ratio_12 : decode cX7_ratio 12 = .ok (.ldiv, 1) := by decide +kernel
theorem dX7_ratio_13 : decode cX7_ratio 13 = .ok (.lreturn, 1) := by decide +kernel
theorem dX7_divides_0 : decode cX7_divides 0 = .ok (.lload_n 0, 1) := by decide +kernel
theorem dX7_divides_1 : decode cX7_divides 1 = .ok (.lconst 0, 1) := by decide +kernel
theorem dX7_divides_2 : decode cX7_divides 2 = .ok (.lcmp, 1) := by decide +kernel
theorem dX7_divides_3 : decode cX7_divides 3 = .ok (.ifCond .eq 15, 3) := by decide +kernel
theorem dX7_divides_6 : decode cX7_divides 6 = .ok (.lload_n 2, 1) := by decide +kernel
theorem dX7_divides_7 : decode cX7_divides 7 = .ok (.lload_n 0, 1) := by decide +kernel
theorem dX7_divides_8 : decode cX7_divides 8 = .ok (.lrem, 1) := by decide +kernel
theorem dX7_divides_9 : decode cX7_divides 9 = .ok (.lconst 0, 1) := by decide +kernel
theorem dX7_divides_10 : decode cX7_divides 10 = .ok (.lcmp, 1) := by decide +kernel
theorem dX7_divides_11 : decode cX7_divides 11 = .ok (.ifCond .ne 7, 3) := by decide +kernel
theorem dX7_divides_14 : decode cX7_divides 14 = .ok (.iconst 1, 1) := by decide +kernel
theorem dX7_divides_15 : decode cX7_divides 15 = .ok (.goto 4, 3) := by decide +kernel
theorem dX7_divides_18 : decode cX7_divides 18 = .ok (.iconst 0, 1) := by decide +kernel
theorem dX7_divides_19 : decode cX7_divides 19 = .ok (.ireturn, 1) := by decide +kernel
theorem dX7_gcd_0 : decode cX7_gcd 0 = .ok (.lload_n 0, 1) := by decide +kernel
theorem dX7_gcd_1 : decode cX7_gcd 1 = .ok (.invokestatic 297, 3) := by decide +kernel
theorem dX7_gcd_4 : decode cX7_gcd 4 = .ok (.lstore 4, 2) := by decide +kernel
theorem dX7_gcd_6 : decode cX7_gcd 6 = .ok (.lload_n 2, 1) := by decide +kernel
theorem dX7_gcd_7 : decode cX7_gcd 7 = .ok (.invokestatic 297, 3) := by decide +kernel
theorem dX7_gcd_10 : decode cX7_gcd 10 = .ok (.lstore 6, 2) := by decide +kernel
theorem dX7_gcd_12 : decode cX7_gcd 12 = .ok (.iconst 0, 1) := by decide +kernel
theorem dX7_gcd_13 : decode cX7_gcd 13 = .ok (.istore 8, 2) := by decide +kernel
theorem dX7_gcd_15 : decode cX7_gcd 15 = .ok (.iload 8, 2) := by decide +kernel
theorem dX7_gcd_17 : decode cX7_gcd 17 = .ok (.ldc 171, 2) := by decide +kernel
theorem dX7_gcd_19 : decode cX7_gcd 19 = .ok (.if_icmp .ge 31, 3) := by decide +kernel
theorem dX7_gcd_22 : decode cX7_gcd 22 = .ok (.lload 6, 2) := by decide +kernel
theorem dX7_gcd_24 : decode cX7_gcd 24 = .ok (.lconst 0, 1) := by decide +kernel
theorem dX7_gcd_25 : decode cX7_gcd 25 = .ok (.lcmp, 1) := by decide +kernel
theorem dX7_gcd_26 : decode cX7_gcd 26 = .ok (.ifCond .eq 24, 3) := by decide +kernel
theorem dX7_gcd_29 : decode cX7_gcd 29 = .ok (.lload 4, 2) := by decide +kernel
theorem dX7_gcd_31 : decode cX7_gcd 31 = .ok (.lload 6, 2) := by decide +kernel
theorem dX7_gcd_33 : decode cX7_gcd 33 = .ok (.lrem, 1) := by decide +kernel
theorem dX7_gcd_34 : decode cX7_gcd 34 = .ok (.lstore 9, 2) := by decide +kernel
theorem dX7_gcd_36 : decode cX7_gcd 36 = .ok (.lload 6, 2) := by decide +kernel
theorem dX7_gcd_38 : decode cX7_gcd 38 = .ok (.lstore 4, 2) := by decide +kernel
theorem dX7_gcd_40 : decode cX7_gcd 40 = .ok (.lload 9, 2) := by decide +kernel
theorem dX7_gcd_42 : decode cX7_gcd 42 = .ok (.lstore 6, 2) := by decide +kernel
theorem dX7_gcd_44 : decode cX7_gcd 44 = .ok (.iinc 8 1, 3) := by decide +kernel
theorem dX7_gcd_47 : decode cX7_gcd 47 = .ok (.goto (-32), 3) := by decide +kernel
theorem dX7_gcd_50 : decode cX7_gcd 50 = .ok (.lload 4, 2) := by decide +kernel
theorem dX7_gcd_52 : decode cX7_gcd 52 = .ok (.lreturn, 1) := by decide +kernel
theorem dX8_init_0 : decode cX8_init 0 = .ok (.aload_n 0, 1) := by decide +kernel
theorem dX8_init_1 : decode cX8_init 1 = .ok (.invokespecial 1, 3) := by decide +kernel
theorem dX8_init_4 : decode cX8_init 4 = .ok (.aload_n 0, 1) := by decide +kernel
theorem dX8_init_5 : decode cX8_init 5 = .ok (.lconst 1, 1) := by decide +kernel
theorem dX8_init_6 : decode cX8_init 6 = .ok (.putfield 7, 3) := by decide +kernel
theorem dX8_init_9 : decode cX8_init 9 = .ok (.aload_n 0, 1) := by decide +kernel
theorem dX8_init_10 : decode cX8_init 10 = .ok (.bipush 8, 2) := by decide +kernel
theorem dX8_init_12 : decode cX8_init 12 = .ok (.newarray .long, 2) := by decide +kernel
theorem dX8_init_14 : decode cX8_init 14 = .ok (.putfield 13, 3) := by decide +kernel
theorem dX8_init_17 : decode cX8_init 17 = .ok (.aload_n 0, 1) := by decide +kernel
theorem dX8_init_18 : decode cX8_init 18 = .ok (.bipush 8, 2) := by decide +kernel
theorem dX8_init_20 : decode cX8_init 20 = .ok (.newarray .long, 2) := by decide +kernel
theorem dX8_init_22 : decode cX8_init 22 = .ok (.putfield 17, 3) := by decide +kernel
theorem dX8_init_25 : decode cX8_init 25 = .ok (.aload_n 0, 1) := by decide +kernel
theorem dX8_init_26 : decode cX8_init 26 = .ok (.iconst 4, 1) := by decide +kernel
theorem dX8_init_27 : decode cX8_init 27 = .ok (.putfield 20, 3) := by decide +kernel
theorem dX8_init_30 : decode cX8_init 30 = .ok (.aload_n 0, 1) := by decide +kernel
theorem dX8_init_31 : decode cX8_init 31 = .ok (.bipush 6, 2) := by decide +kernel
theorem dX8_init_33 : decode cX8_init 33 = .ok (.newarray .long, 2) := by decide +kernel
theorem dX8_init_35 : decode cX8_init 35 = .ok (.dup, 1) := by decide +kernel
theorem dX8_init_36 : decode cX8_init 36 = .ok (.iconst 0, 1) := by decide +kernel
theorem dX8_init_37 : decode cX8_init 37 = .ok (.lconst 1, 1) := by decide +kernel
theorem dX8_init_38 : decode cX8_init 38 = .ok (.lastore, 1) := by decide +kernel
theorem dX8_init_39 : decode cX8_init 39 = .ok (.dup, 1) := by decide +kernel
theorem dX8_init_40 : decode cX8_init 40 = .ok (.iconst 1, 1) := by decide +kernel
theorem dX8_init_41 : decode cX8_init 41 = .ok (.ldc2_w 24, 3) := by decide +kernel
theorem dX8_init_44 : decode cX8_init 44 = .ok (.lastore, 1) := by decide +kernel
theorem dX8_init_45 : decode cX8_init 45 = .ok (.dup, 1) := by decide +kernel
theorem dX8_init_46 : decode cX8_init 46 = .ok (.iconst 2, 1) := by decide +kernel
theorem dX8_init_47 : decode cX8_init 47 = .ok (.lconst 0, 1) := by decide +kernel
theorem dX8_init_48 : decode cX8_init 48 = .ok (.lastore, 1) := by decide +kernel
theorem dX8_init_49 : decode cX8_init 49 = .ok (.dup, 1) := by decide +kernel
theorem dX8_init_50 : decode cX8_init 50 = .ok (.iconst 3, 1) := by decide +kernel
theorem dX8_init_51 : decode cX8_init 51 = .ok (.lconst 0, 1) := by decide +kernel
theorem dX8_init_52 : decode cX8_init 52 = .ok (.lastore, 1) := by decide +kernel
theorem dX8_init_53 : decode cX8_init 53 = .ok (.dup, 1) := by decide +kernel
theorem dX8_init_54 : decode cX8_init 54 = .ok (.iconst 4, 1) := by decide +kernel
theorem dX8_init_55 : decode cX8_init 55 = .ok (.lconst 0, 1) := by decide +kernel
theorem dX8_init_56 : decode cX8_init 56 = .ok (.lastore, 1) := by decide +kernel
theorem dX8_init_57 : decode cX8_init 57 = .ok (.dup, 1) := by decide +kernel
theorem dX8_init_58 : decode cX8_init 58 = .ok (.iconst 5, 1) := by decide +kernel
theorem dX8_init_59 : decode cX8_init 59 = .ok (.lconst 0, 1) := by decide +kernel
theorem dX8_init_60 : decode cX8_init 60 = .ok (.lastore, 1) := by decide +kernel
theorem dX8_init_61 : decode cX8_init 61 = .ok (.putfield 26, 3) := by decide +kernel
theorem dX8_init_64 : decode cX8_init 64 = .ok (.aload_n 0, 1) := by decide +kernel
theorem dX8_init_65 : decode cX8_init 65 = .ok (.bipush 6, 2) := by decide +kernel
theorem dX8_init_67 : decode cX8_init 67 = .ok (.newarray .long, 2) := by decide +kernel
theorem dX8_init_69 : decode cX8_init 69 = .ok (.dup, 1) := by decide +kernel
theorem dX8_init_70 : decode cX8_init 70 = .ok (.iconst 0, 1) := by decide +kernel
theorem dX8_init_71 : decode cX8_init 71 = .ok (.lconst 0, 1) := by decide +kernel
theorem dX8_init_72 : decode cX8_init 72 = .ok (.lastore, 1) := by decide +kernel
theorem dX8_init_73 : decode cX8_init 73 = .ok (.dup, 1) := by decide +kernel
theorem dX8_init_74 : decode cX8_init 74 = .ok (.iconst 1, 1) := by decide +kernel
theorem dX8_init_75 : decode cX8_init 75 = .ok (.lconst 0, 1) := by decide +kernel
theorem dX8_init_76 : decode cX8_init 76 = .ok (.lastore, 1) := by decide +kernel
theorem dX8_init_77 : decode cX8_init 77 = .ok (.dup, 1) := by decide +kernel
theorem dX8_init_78 : decode cX8_init 78 = .ok (.iconst 2, 1) := by decide +kernel
theorem dX8_init_79 : decode cX8_init 79 = .ok (.lconst 1, 1) := by decide +kernel
theorem dX8_init_80 : decode cX8_init 80 = .ok (.lastore, 1) := by decide +kernel
theorem dX8_init_81 : decode cX8_init 81 = .ok (.dup, 1) := by decide +kernel
theorem dX8_init_82 : decode cX8_init 82 = .ok (.iconst 3, 1) := by decide +kernel
theorem dX8_init_83 : decode cX8_init 83 = .ok (.ldc2_w 24, 3) := by decide +kernel
theorem dX8_init_86 : decode cX8_init 86 = .ok (.lastore, 1) := by decide +kernel
theorem dX8_init_87 : decode cX8_init 87 = .ok (.dup, 1) := by decide +kernel
theorem dX8_init_88 : decode cX8_init 88 = .ok (.iconst 4, 1) := by decide +kernel
theorem dX8_init_89 : decode cX8_init 89 = .ok (.lconst 0, 1) := by decide +kernel
theorem dX8_init_90 : decode cX8_init 90 = .ok (.lastore, 1) := by decide +kernel
theorem dX8_init_91 : decode cX8_init 91 = .ok (.dup, 1) := by decide +kernel
theorem dX8_init_92 : decode cX8_init 92 = .ok (.iconst 5, 1) := by decide +kernel
theorem dX8_init_93 : decode cX8_init 93 = .ok (.lconst 0, 1) := by decide +kernel
theorem dX8_init_94 : decode cX8_init 94 = .ok (.lastore, 1) := by decide +kernel
theorem dX8_init_95 : decode cX8_init 95 = .ok (.putfield 29, 3) := by decide +kernel
theorem dX8_init_98 : decode cX8_init 98 = .ok (.aload_n 0, 1) := by decide +kernel
theorem dX8_init_99 : decode cX8_init 99 = .ok (.bipush 40, 2) := by decide +kernel
theorem dX8_init_101 : decode cX8_init 101 = .ok (.newarray .long, 2) := by decide +kernel
theorem dX8_init_103 : decode cX8_init 103 = .ok (.putfield 32, 3) := by decide +kernel
theorem dX8_init_106 : decode cX8_init 106 = .ok (.aload_n 0, 1) := by decide +kernel
theorem dX8_init_107 : decode cX8_init 107 = .ok (.bipush 40, 2) := by decide +kernel
theorem dX8_init_109 : decode cX8_init 109 = .ok (.newarray .long, 2) := by decide +kernel
theorem dX8_init_111 : decode cX8_init 111 = .ok (.putfield 35, 3) := by decide +kernel
theorem dX8_init_114 : decode cX8_init 114 = .ok (.aload_n 0, 1) := by decide +kernel
theorem dX8_init_115 : decode cX8_init 115 = .ok (.sipush 1000, 3) := by decide +kernel
theorem dX8_init_118 : decode cX8_init 118 = .ok (.newarray .long, 2) := by decide +kernel
theorem dX8_init_120 : decode cX8_init 120 = .ok (.putfield 38, 3) := by decide +kernel
theorem dX8_init_123 : decode cX8_init 123 = .ok (.aload_n 0, 1) := by decide +kernel
theorem dX8_init_124 : decode cX8_init 124 = .ok (.sipush 1000, 3) := by decide +kernel
theorem dX8_init_127 : decode cX8_init 127 = .ok (.newarray .long, 2) := by decide +kernel
theorem dX8_init_129 : decode cX8_init 129 = .ok (.putfield 41, 3) := by decide +kernel
theorem dX8_init_132 : decode cX8_init 132 = .ok (.aload_n 0, 1) := by decide +kernel
theorem dX8_init_133 : decode cX8_init 133 = .ok (.sipush 1000, 3) := by decide +kernel
theorem dX8_init_136 : decode cX8_init 136 = .ok (.newarray .int, 2) := by decide +kernel
theorem dX8_init_138 : decode cX8_init 138 = .ok (.putfield 44, 3) := by decide +kernel
theorem dX8_init_141 : decode cX8_init 141 = .ok (.aload_n 0, 1) := by decide +kernel
theorem dX8_init_142 : decode cX8_init 142 = .ok (.bipush 12, 2) := by decide +kernel
theorem dX8_init_144 : decode cX8_init 144 = .ok (.newarray .long, 2) := by decide +kernel
theorem dX8_init_146 : decode cX8_init 146 = .ok (.putfield 48, 3) := by decide +kernel
theorem dX8_init_149 : decode cX8_init 149 = .ok (.aload_n 0, 1) := by decide +kernel
theorem dX8_init_150 : decode cX8_init 150 = .ok (.bipush 12, 2) := by decide +kernel
theorem dX8_init_152 : decode cX8_init 152 = .ok (.newarray .long, 2) := by decide +kernel
theorem dX8_init_154 : decode cX8_init 154 = .ok (.putfield 51, 3) := by decide +kernel
theorem dX8_init_157 : decode cX8_init 157 = .ok (.aload_n 0, 1) := by decide +kernel
theorem dX8_init_158 : decode cX8_init 158 = .ok (.sipush 3721, 3) := by decide +kernel
theorem dX8_init_161 : decode cX8_init 161 = .ok (.newarray .int, 2) := by decide +kernel
theorem dX8_init_163 : decode cX8_init 163 = .ok (.putfield 54, 3) := by decide +kernel
theorem dX8_init_166 : decode cX8_init 166 = .ok (.aload_n 0, 1) := by decide +kernel
theorem dX8_init_167 : decode cX8_init 167 = .ok (.sipush 3721, 3) := by decide +kernel
theorem dX8_init_170 : decode cX8_init 170 = .ok (.newarray .int, 2) := by decide +kernel
theorem dX8_init_172 : decode cX8_init 172 = .ok (.putfield 57, 3) := by decide +kernel
theorem dX8_init_175 : decode cX8_init 175 = .ok (.return_, 1) := by decide +kernel
theorem dX8_in_0 : decode cX8_in 0 = .ok (.lload_n 0, 1) := by decide +kernel
theorem dX8_in_1 : decode cX8_in 1 = .ok (.lload_n 2, 1) := by decide +kernel
theorem dX8_in_2 : decode cX8_in 2 = .ok (.lcmp, 1) := by decide +kernel
theorem dX8_in_3 : decode cX8_in 3 = .ok (.ifCond .lt 14, 3) := by decide +kernel
theorem dX8_in_6 : decode cX8_in 6 = .ok (.lload_n 0, 1) := by decide +kernel
theorem dX8_in_7 : decode cX8_in 7 = .ok (.lload 4, 2) := by decide +kernel
theorem dX8_in_9 : decode cX8_in 9 = .ok (.lcmp, 1) := by decide +kernel
theorem dX8_in_10 : decode cX8_in 10 = .ok (.ifCond .gt 7, 3) := by decide +kernel
theorem dX8_in_13 : decode cX8_in 13 = .ok (.iconst 1, 1) := by decide +kernel
theorem dX8_in_14 : decode cX8_in 14 = .ok (.goto 4, 3) := by decide +kernel
theorem dX8_in_17 : decode cX8_in 17 = .ok (.iconst 0, 1) := by decide +kernel
theorem dX8_in_18 : decode cX8_in 18 = .ok (.ireturn, 1) := by decide +kernel
theorem dX8_isReg_0 : decode cX8_isReg 0 = .ok (.iload_n 0, 1) := by decide +kernel
theorem dX8_isReg_1 : decode cX8_isReg 1 = .ok (.i2l, 1) := by decide +kernel
theorem dX8_isReg_2 : decode cX8_isReg 2 = .ok (.lconst 0, 1) := by decide +kernel
theorem dX8_isReg_3 : decode cX8_isReg 3 = .ok (.ldc2_w 60, 3) := by decide +kernel
theorem dX8_isReg_6 : decode cX8_isReg 6 = .ok (.invokestatic 62, 3) := by decide +kernel
theorem dX8_isReg_9 : decode cX8_isReg 9 = .ok (.ireturn, 1) := by decide +kernel
theorem dX8_sizeOf_0 : decode cX8_sizeOf 0 = .ok (.lload_n 1, 1) := by decide +kernel
theorem dX8_sizeOf_1 : decode cX8_sizeOf 1 = .ok (.lload_n 1, 1) := by decide +kernel
theorem dX8_sizeOf_2 : decode cX8_sizeOf 2 = .ok (.lmul, 1) := by decide +kernel
theorem dX8_sizeOf_3 : decode cX8_sizeOf 3 = .ok (.aload_n 0, 1) := by decide +kernel
theorem dX8_sizeOf_4 : decode cX8_sizeOf 4 = .ok (.getfield 66, 3) := by decide +kernel
theorem dX8_sizeOf_7 : decode cX8_sizeOf 7 = .ok (.lload_n 1, 1) := by decide +kernel
theorem dX8_sizeOf_8 : decode cX8_sizeOf 8 = .ok (.lmul, 1) := by decide +kernel
theorem dX8_sizeOf_9 : decode cX8_sizeOf 9 = .ok (.lload_n 3, 1) := by decide +kernel
theorem dX8_sizeOf_10 : decode cX8_sizeOf 10 = .ok (.lmul, 1) := by decide +kernel
theorem dX8_sizeOf_11 : decode cX8_sizeOf 11 = .ok (.ladd, 1) := by decide +kernel
theorem dX8_sizeOf_12 : decode cX8_sizeOf 12 = .ok (.aload_n 0, 1) := by decide +kernel
theorem dX8_sizeOf_13 : decode cX8_sizeOf 13 = .ok (.getfield 7, 3) := by decide +kernel
theorem dX8_sizeOf_16 : decode cX8_sizeOf 16 = .ok (.lload_n 3, 1) := by decide +kernel
theorem dX8_sizeOf_17 : decode cX8_sizeOf 17 = .ok (.lmul, 1) := by decide +kernel
theorem dX8_sizeOf_18 : decode cX8_sizeOf 18 = .ok (.lload_n 3, 1) := by decide +kernel
theorem dX8_sizeOf_19 : decode cX8_sizeOf 19 = .ok (.lmul, 1) := by decide +kernel
theorem dX8_sizeOf_20 : decode cX8_sizeOf 20 = .ok (.ladd, 1) := by decide +kernel
theorem dX8_sizeOf_21 : decode cX8_sizeOf 21 = .ok (.lreturn, 1) := by decide +kernel
theorem dX8_put_0 : decode cX8_put 0 = .ok (.aload_n 0, 1) := by decide +kernel
theorem dX8_put_1 : decode cX8_put 1 = .ok (.lload_n 1, 1) := by decide +kernel
theorem dX8_put_2 : decode cX8_put 2 = .ok (.putfield 69, 3) := by decide +kernel
theorem dX8_put_5 : decode cX8_put 5 = .ok (.aload_n 0, 1) := by decide +kernel
theorem dX8_put_6 : decode cX8_put 6 = .ok (.lload_n 3, 1) := by decide +kernel
theorem dX8_put_7 : decode cX8_put 7 = .ok (.putfield 72, 3) := by decide +kernel
theorem dX8_put_10 : decode cX8_put 10 = .ok (.return_, 1) := by decide +kernel
theorem dX8_times_0 : decode cX8_times 0 = .ok (.aload_n 0, 1) := by decide +kernel
theorem dX8_times_1 : decode cX8_times 1 = .ok (.lload_n 1, 1) := by decide +kernel
theorem dX8_times_2 : decode cX8_times 2 = .ok (.lload 5, 2) := by decide +kernel
theorem dX8_times_4 : decode cX8_times 4 = .ok (.lmul, 1) := by decide +kernel
theorem dX8_times_5 : decode cX8_times 5 = .ok (.aload_n 0, 1) := by decide +kernel
theorem dX8_times_6 : decode cX8_times 6 = .ok (.getfield 7, 3) := by decide +kernel
theorem dX8_times_9 : decode cX8_times 9 = .ok (.lload_n 3, 1) := by decide +kernel
theorem dX8_times_10 : decode cX8_times 10 = .ok (.lmul, 1) := by decide +kernel
theorem dX8_times_11 : decode cX8_times 11 = .ok (.lload 7, 2) := by decide +kernel
theorem dX8_times_13 : decode cX8_times 13 = .ok (.lmul, 1) := by decide +kernel
theorem dX8_times_14 : decode cX8_times 14 = .ok (.lsub, 1) := by decide +kernel
theorem dX8_times_15 : decode cX8_times 15 = .ok (.lload_n 1, 1) := by decide +kernel
theorem dX8_times_16 : decode cX8_times 16 = .ok (.lload 7, 2) := by decide +kernel
theorem dX8_times_18 : decode cX8_times 18 = .ok (.lmul, 1) := by decide +kernel
theorem dX8_times_19 : decode cX8_times 19 = .ok (.lload_n 3, 1) := by decide +kernel
theorem dX8_times_20 : decode cX8_times 20 = .ok (.lload 5, 2) := by decide +kernel
theorem dX8_times_22 : decode cX8_times 22 = .ok (.lmul, 1) := by decide +kernel
theorem dX8_times_23 : decode cX8_times 23 = .ok (.ladd, 1) := by decide +kernel
theorem dX8_times_24 : decode cX8_times 24 = .ok (.aload_n 0, 1) := by decide +kernel
theorem dX8_times_25 : decode cX8_times 25 = .ok (.getfield 66, 3) := by decide +kernel
theorem dX8_times_28 : decode cX8_times 28 = .ok (.lload_n 3, 1) := by decide +kernel
theorem dX8_times_29 : decode cX8_times 29 = .ok (.lmul, 1) := by decide +kernel
theorem dX8_times_30 : decode cX8_times 30 = .ok (.lload 7, 2) := by decide +kernel
theorem dX8_times_32 : decode cX8_times 32 = .ok (.lmul, 1) := by decide +kernel
theorem dX8_times_33 : decode cX8_times 33 = .ok (.ladd, 1) := by decide +kernel
theorem dX8_times_34 : decode cX8_times 34 = .ok (.invokevirtual 75, 3) := by decide +kernel
theorem dX8_times_37 : decode cX8_times 37 = .ok (.return_, 1) := by decide +kernel
theorem dX8_layUnits_0 : decode cX8_layUnits 0 = .ok (.aload_n 0, 1) := by decide +kernel
theorem dX8_layUnits_1 : decode cX8_layUnits 1 = .ok (.iconst 0, 1) := by decide +kernel
theorem dX8_layUnits_2 : decode cX8_layUnits 2 = .ok (.putfield 20, 3) := by decide +kernel
theorem dX8_layUnits_5 : decode cX8_layUnits 5 = .ok (.ldc2_w 24, 3) := by decide +kernel
theorem dX8_layUnits_8 : decode cX8_layUnits 8 = .ok (.lstore_n 1, 1) := by decide +kernel
theorem dX8_layUnits_9 : decode cX8_layUnits 9 = .ok (.lload_n 1, 1) := by decide +kernel
theorem dX8_layUnits_10 : decode cX8_layUnits 10 = .ok (.lconst 1, 1) := by decide +kernel
theorem dX8_layUnits_11 : decode cX8_layUnits 11 = .ok (.lcmp, 1) := by decide +kernel
theorem dX8_layUnits_12 : decode cX8_layUnits 12 = .ok (.ifCond .gt 68, 3) := by decide +kernel
theorem dX8_layUnits_15 : decode cX8_layUnits 15 = .ok (.ldc2_w 24, 3) := by decide +kernel
theorem dX8_layUnits_18 : decode cX8_layUnits 18 = .ok (.lstore_n 3, 1) := by decide +kernel
theorem dX8_layUnits_19 : decode cX8_layUnits 19 = .ok (.lload_n 3, 1) := by decide +kernel
theorem dX8_layUnits_20 : decode cX8_layUnits 20 = .ok (.lconst 1, 1) := by decide +kernel
theorem dX8_layUnits_21 : decode cX8_layUnits 21 = .ok (.lcmp, 1) := by decide +kernel
theorem dX8_layUnits_22 : decode cX8_layUnits 22 = .ok (.ifCond .gt 51, 3) := by decide +kernel
theorem dX8_layUnits_25 : decode cX8_layUnits 25 = .ok (.aload_n 0, 1) := by decide +kernel
theorem dX8_layUnits_26 : decode cX8_layUnits 26 = .ok (.lload_n 1, 1) := by decide +kernel
theorem dX8_layUnits_27 : decode cX8_layUnits 27 = .ok (.lload_n 3, 1) := by decide +kernel
theorem dX8_layUnits_28 : decode cX8_layUnits 28 = .ok (.invokevirtual 79, 3) := by decide +kernel
theorem dX8_layUnits_31 : decode cX8_layUnits 31 = .ok (.lconst 1, 1) := by decide +kernel
theorem dX8_layUnits_32 : decode cX8_layUnits 32 = .ok (.lcmp, 1) := by decide +kernel
theorem dX8_layUnits_33 : decode cX8_layUnits 33 = .ok (.ifCond .ne 33, 3) := by decide +kernel
theorem dX8_layUnits_36 : decode cX8_layUnits 36 = .ok (.aload_n 0, 1) := by decide +kernel
theorem dX8_layUnits_37 : decode cX8_layUnits 37 = .ok (.getfield 26, 3) := by decide +kernel
theorem dX8_layUnits_40 : decode cX8_layUnits 40 = .ok (.aload_n 0, 1) := by decide +kernel
theorem dX8_layUnits_41 : decode cX8_layUnits 41 = .ok (.getfield 20, 3) := by decide +kernel
theorem dX8_layUnits_44 : decode cX8_layUnits 44 = .ok (.lload_n 1, 1) := by decide +kernel
theorem dX8_layUnits_45 : decode cX8_layUnits 45 = .ok (.lastore, 1) := by decide +kernel
theorem dX8_layUnits_46 : decode cX8_layUnits 46 = .ok (.aload_n 0, 1) := by decide +kernel
theorem dX8_layUnits_47 : decode cX8_layUnits 47 = .ok (.getfield 29, 3) := by decide +kernel
theorem dX8_layUnits_50 : decode cX8_layUnits 50 = .ok (.aload_n 0, 1) := by decide +kernel
theorem dX8_layUnits_51 : decode cX8_layUnits 51 = .ok (.getfield 20, 3) := by decide +kernel
theorem dX8_layUnits_54 : decode cX8_layUnits 54 = .ok (.lload_n 3, 1) := by decide +kernel
theorem dX8_layUnits_55 : decode cX8_layUnits 55 = .ok (.lastore, 1) := by decide +kernel
theorem dX8_layUnits_56 : decode cX8_layUnits 56 = .ok (.aload_n 0, 1) := by decide +kernel
theorem dX8_layUnits_57 : decode cX8_layUnits 57 = .ok (.dup, 1) := by decide +kernel
theorem dX8_layUnits_58 : decode cX8_layUnits 58 = .ok (.getfield 20, 3) := by decide +kernel
theorem dX8_layUnits_61 : decode cX8_layUnits 61 = .ok (.iconst 1, 1) := by decide +kernel
theorem dX8_layUnits_62 : decode cX8_layUnits 62 = .ok (.iadd, 1) := by decide +kernel
theorem dX8_layUnits_63 : decode cX8_layUnits 63 = .ok (.putfield 20, 3) := by decide +kernel
theorem dX8_layUnits_66 : decode cX8_layUnits 66 = .ok (.lload_n 3, 1) := by decide +kernel
theorem dX8_layUnits_67 : decode cX8_layUnits 67 = .ok (.lconst 1, 1) := by decide +kernel
theorem dX8_layUnits_68 : decode cX8_layUnits 68 = .ok (.ladd, 1) := by decide +kernel
theorem dX8_layUnits_69 : decode cX8_layUnits 69 = .ok (.lstore_n 3, 1) := by decide +kernel
theorem dX8_layUnits_70 : decode cX8_layUnits 70 = .ok (.goto (-51), 3) := by decide +kernel
theorem dX8_layUnits_73 : decode cX8_layUnits 73 = .ok (.lload_n 1, 1) := by decide +kernel
theorem dX8_layUnits_74 : decode cX8_layUnits 74 = .ok (.lconst 1, 1) := by decide +kernel
theorem dX8_layUnits_75 : decode cX8_layUnits 75 = .ok (.ladd, 1) := by decide +kernel
theorem dX8_layUnits_76 : decode cX8_layUnits 76 = .ok (.lstore_n 1, 1) := by decide +kernel
theorem dX8_layUnits_77 : decode cX8_layUnits 77 = .ok (.goto (-68), 3) := by decide +kernel
theorem dX8_layUnits_80 : decode cX8_layUnits 80 = .ok (.return_, 1) := by decide +kernel
theorem dX8_kind_0 : decode cX8_kind 0 = .ok (.iload_n 1, 1) := by decide +kernel
theorem dX8_kind_1 : decode cX8_kind 1 = .ok (.i2l, 1) := by decide +kernel
theorem dX8_kind_2 : decode cX8_kind 2 = .ok (.lconst 0, 1) := by decide +kernel
theorem dX8_kind_3 : decode cX8_kind 3 = .ok (.ldc2_w 83, 3) := by decide +kernel
theorem dX8_kind_6 : decode cX8_kind 6 = .ok (.invokestatic 62, 3) := by decide +kernel
theorem dX8_kind_9 : decode cX8_kind 9 = .ok (.ifCond .ne 5, 3) := by decide +kernel
theorem dX8_kind_12 : decode cX8_kind 12 = .ok (.iconst (-1), 1) := by decide +kernel
theorem dX8_kind_13 : decode cX8_kind 13 = .ok (.ireturn, 1) := by decide +kernel
theorem dX8_kind_14 : decode cX8_kind 14 = .ok (.aload_n 0, 1) := by decide +kernel
theorem dX8_kind_15 : decode cX8_kind 15 = .ok (.iload_n 1, 1) := by decide +kernel
theorem dX8_kind_16 : decode cX8_kind 16 = .ok (.iconst 1, 1) := by decide +kernel
theorem dX8_kind_17 : decode cX8_kind 17 = .ok (.if_icmp .ne 9, 3) := by decide +kernel
theorem dX8_kind_20 : decode cX8_kind 20 = .ok (.ldc2_w 24, 3) := by decide +kernel
theorem dX8_kind_23 : decode cX8_kind 23 = .ok (.goto 13, 3) := by decide +kernel
theorem dX8_kind_26 : decode cX8_kind 26 = .ok (.iload_n 1, 1) := by decide +kernel
theorem dX8_kind_27 : decode cX8_kind 27 = .ok (.iconst 2, 1) := by decide +kernel
theorem dX8_kind_28 : decode cX8_kind 28 = .ok (.if_icmp .le 7, 3) := by decide +kernel
theorem dX8_kind_31 : decode cX8_kind 31 = .ok (.lconst 1, 1) := by decide +kernel
theorem dX8_kind_32 : decode cX8_kind 32 = .ok (.goto 4, 3) := by decide +kernel
theorem dX8_kind_35 : decode cX8_kind 35 = .ok (.lconst 0, 1) := by decide +kernel
theorem dX8_kind_36 : decode cX8_kind 36 = .ok (.putfield 66, 3) := by decide +kernel
theorem dX8_kind_39 : decode cX8_kind 39 = .ok (.aload_n 0, 1) := by decide +kernel
theorem dX8_kind_40 : decode cX8_kind 40 = .ok (.iload_n 1, 1) := by decide +kernel
theorem dX8_kind_41 : decode cX8_kind 41 = .ok (.iconst 2, 1) := by decide +kernel
theorem dX8_kind_42 : decode cX8_kind 42 = .ok (.if_icmp .ge 7, 3) := by decide +kernel
theorem dX8_kind_45 : decode cX8_kind 45 = .ok (.lconst 1, 1) := by decide +kernel
theorem dX8_kind_46 : decode cX8_kind 46 = .ok (.goto 17, 3) := by decide +kernel
theorem dX8_kind_49 : decode cX8_kind 49 = .ok (.iload_n 1, 1) := by decide +kernel
theorem dX8_kind_50 : decode cX8_kind 50 = .ok (.iconst 4, 1) := by decide +kernel
theorem dX8_kind_51 : decode cX8_kind 51 = .ok (.if_icmp .ge 9, 3) := by decide +kernel
theorem dX8_kind_54 : decode cX8_kind 54 = .ok (.ldc2_w 85, 3) := by decide +kernel
theorem dX8_kind_57 : decode cX8_kind 57 = .ok (.goto 6, 3) := by decide +kernel
theorem dX8_kind_60 : decode cX8_kind 60 = .ok (.ldc2_w 87, 3) := by decide +kernel
theorem dX8_kind_63 : decode cX8_kind 63 = .ok (.putfield 7, 3) := by decide +kernel
theorem dX8_kind_66 : decode cX8_kind 66 = .ok (.aload_n 0, 1) := by decide +kernel
theorem dX8_kind_67 : decode cX8_kind 67 = .ok (.invokevirtual 89, 3) := by decide +kernel
theorem dX8_kind_70 : decode cX8_kind 70 = .ok (.iconst 0, 1) := by decide +kernel
theorem dX8_kind_71 : decode cX8_kind 71 = .ok (.istore_n 2, 1) := by decide +kernel
theorem dX8_kind_72 : decode cX8_kind 72 = .ok (.iload_n 2, 1) := by decide +kernel
theorem dX8_kind_73 : decode cX8_kind 73 = .ok (.bipush 8, 2) := by decide +kernel
theorem dX8_kind_75 : decode cX8_kind 75 = .ok (.if_icmp .ge 23, 3) := by decide +kernel
theorem dX8_kind_78 : decode cX8_kind 78 = .ok (.aload_n 0, 1) := by decide +kernel
theorem dX8_kind_79 : decode cX8_kind 79 = .ok (.getfield 13, 3) := by decide +kernel
theorem dX8_kind_82 : decode cX8_kind 82 = .ok (.iload_n 2, 1) := by decide +kernel
theorem dX8_kind_83 : decode cX8_kind 83 = .ok (.lconst 0, 1) := by decide +kernel
theorem dX8_kind_84 : decode cX8_kind 84 = .ok (.lastore, 1) := by decide +kernel
theorem dX8_kind_85 : decode cX8_kind 85 = .ok (.aload_n 0, 1) := by decide +kernel
theorem dX8_kind_86 : decode cX8_kind 86 = .ok (.getfield 17, 3) := by decide +kernel
theorem dX8_kind_89 : decode cX8_kind 89 = .ok (.iload_n 2, 1) := by decide +kernel
theorem dX8_kind_90 : decode cX8_kind 90 = .ok (.lconst 0, 1) := by decide +kernel
theorem dX8_kind_91 : decode cX8_kind 91 = .ok (.lastore, 1) := by decide +kernel
theorem dX8_kind_92 : decode cX8_kind 92 = .ok (.iinc 2 1, 3) := by decide +kernel
theorem dX8_kind_95 : decode cX8_kind 95 = .ok (.goto (-23), 3) := by decide +kernel
theorem dX8_kind_98 : decode cX8_kind 98 = .ok (.aload_n 0, 1) := by decide +kernel
theorem dX8_kind_99 : decode cX8_kind 99 = .ok (.getfield 20, 3) := by decide +kernel
theorem dX8_kind_102 : decode cX8_kind 102 = .ok (.ireturn, 1) := by decide +kernel
theorem dX8_set_0 : decode cX8_set 0 = .ok (.iload_n 1, 1) := by decide +kernel
theorem dX8_set_1 : decode cX8_set 1 = .ok (.invokestatic 92, 3) := by decide +kernel
theorem dX8_set_4 : decode cX8_set 4 = .ok (.ifCond .eq 31, 3) := by decide +kernel
theorem dX8_set_7 : decode cX8_set 7 = .ok (.iload_n 2, 1) := by decide +kernel
theorem dX8_set_8 : decode cX8_set 8 = .ok (.i2l, 1) := by decide +kernel
theorem dX8_set_9 : decode cX8_set 9 = .ok (.ldc2_w 96, 3) := by decide +kernel
theorem dX8_set_12 : decode cX8_set 12 = .ok (.ldc2_w 98, 3) := by decide +kernel
theorem dX8_set_15 : decode cX8_set 15 = .ok (.invokestatic 62, 3) := by decide +kernel
theorem dX8_set_18 : decode cX8_set 18 = .ok (.ifCond .eq 17, 3) := by decide +kernel
theorem dX8_set_21 : decode cX8_set 21 = .ok (.iload_n 3, 1) := by decide +kernel
theorem dX8_set_22 : decode cX8_set 22 = .ok (.i2l, 1) := by decide +kernel
theorem dX8_set_23 : decode cX8_set 23 = .ok (.ldc2_w 96, 3) := by decide +kernel
theorem dX8_set_26 : decode cX8_set 26 = .ok (.ldc2_w 98, 3) := by decide +kernel
theorem dX8_set_29 : decode cX8_set 29 = .ok (.invokestatic 62, 3) := by decide +kernel
theorem dX8_set_32 : decode cX8_set 32 = .ok (.ifCond .ne 5, 3) := by decide +kernel
theorem dX8_set_35 : decode cX8_set 35 = .ok (.iconst (-1), 1) := by decide +kernel
theorem dX8_set_36 : decode cX8_set 36 = .ok (.ireturn, 1) := by decide +kernel
theorem dX8_set_37 : decode cX8_set 37 = .ok (.aload_n 0, 1) := by decide +kernel
theorem dX8_set_38 : decode cX8_set 38 = .ok (.getfield 13, 3) := by decide +kernel
theorem dX8_set_41 : decode cX8_set 41 = .ok (.iload_n 1, 1) := by decide +kernel
theorem dX8_set_42 : decode cX8_set 42 = .ok (.iload_n 2, 1) := by decide +kernel
theorem dX8_set_43 : decode cX8_set 43 = .ok (.i2l, 1) := by decide +kernel
theorem dX8_set_44 : decode cX8_set 44 = .ok (.lastore, 1) := by decide +kernel
theorem dX8_set_45 : decode cX8_set 45 = .ok (.aload_n 0, 1) := by decide +kernel
theorem dX8_set_46 : decode cX8_set 46 = .ok (.getfield 17, 3) := by decide +kernel
theorem dX8_set_49 : decode cX8_set 49 = .ok (.iload_n 1, 1) := by decide +kernel
theorem dX8_set_50 : decode cX8_set 50 = .ok (.iload_n 3, 1) := by decide +kernel
theorem dX8_set_51 : decode cX8_set 51 = .ok (.i2l, 1) := by decide +kernel
theorem dX8_set_52 : decode cX8_set 52 = .ok (.lastore, 1) := by decide +kernel
theorem dX8_set_53 : decode cX8_set 53 = .ok (.iconst 0, 1) := by decide +kernel
theorem dX8_set_54 : decode cX8_set 54 = .ok (.ireturn, 1) := by decide +kernel
theorem dX8_get_0 : decode cX8_get 0 = .ok (.iload_n 1, 1) := by decide +kernel
theorem dX8_get_1 : decode cX8_get 1 = .ok (.invokestatic 92, 3) := by decide +kernel
theorem dX8_get_4 : decode cX8_get 4 = .ok (.ifCond .eq 13, 3) := by decide +kernel
theorem dX8_get_7 : decode cX8_get 7 = .ok (.iload_n 2, 1) := by decide +kernel
theorem dX8_get_8 : decode cX8_get 8 = .ok (.i2l, 1) := by decide +kernel
theorem dX8_get_9 : decode cX8_get 9 = .ok (.lconst 0, 1) := by decide +kernel
theorem dX8_get_10 : decode cX8_get 10 = .ok (.lconst 1, 1) := by decide +kernel
theorem dX8_get_11 : decode cX8_get 11 = .ok (.invokestatic 62, 3) := by decide +kernel
theorem dX8_get_14 : decode cX8_get 14 = .ok (.ifCond .ne 6, 3) := by decide +kernel
theorem dX8_get_17 : decode cX8_get 17 = .ok (.ldc 100, 2) := by decide +kernel
theorem dX8_get_19 : decode cX8_get 19 = .ok (.ireturn, 1) := by decide +kernel
theorem dX8_get_20 : decode cX8_get 20 = .ok (.iload_n 2, 1) := by decide +kernel
theorem dX8_get_21 : decode cX8_get 21 = .ok (.ifCond .ne 12, 3) := by decide +kernel
theorem dX8_get_24 : decode cX8_get 24 = .ok (.aload_n 0, 1) := by decide +kernel
theorem dX8_get_25 : decode cX8_get 25 = .ok (.getfield 13, 3) := by decide +kernel
theorem dX8_get_28 : decode cX8_get 28 = .ok (.iload_n 1, 1) := by decide +kernel
theorem dX8_get_29 : decode cX8_get 29 = .ok (.laload, 1) := by decide +kernel
theorem dX8_get_30 : decode cX8_get 30 = .ok (.goto 9, 3) := by decide +kernel
theorem dX8_get_33 : decode cX8_get 33 = .ok (.aload_n 0, 1) := by decide +kernel
theorem dX8_get_34 : decode cX8_get 34 = .ok (.getfield 17, 3) := by decide +kernel
theorem dX8_get_37 : decode cX8_get 37 = .ok (.iload_n 1, 1) := by decide +kernel
theorem dX8_get_38 : decode cX8_get 38 = .ok (.laload, 1) := by decide +kernel
theorem dX8_get_39 : decode cX8_get 39 = .ok (.l2i, 1) := by decide +kernel
theorem dX8_get_40 : decode cX8_get 40 = .ok (.ireturn, 1) := by decide +kernel
theorem dX8_size_0 : decode cX8_size 0 = .ok (.iload_n 1, 1) := by decide +kernel
theorem dX8_size_1 : decode cX8_size 1 = .ok (.invokestatic 92, 3) := by decide +kernel
theorem dX8_size_4 : decode cX8_size 4 = .ok (.ifCond .eq 22, 3) := by decide +kernel
theorem dX8_size_7 : decode cX8_size 7 = .ok (.aload_n 0, 1) := by decide +kernel
theorem dX8_size_8 : decode cX8_size 8 = .ok (.aload_n 0, 1) := by decide +kernel
theorem dX8_size_9 : decode cX8_size 9 = .ok (.getfield 13, 3) := by decide +kernel
theorem dX8_size_12 : decode cX8_size 12 = .ok (.iload_n 1, 1) := by decide +kernel
theorem dX8_size_13 : decode cX8_size 13 = .ok (.laload, 1) := by decide +kernel
theorem dX8_size_14 : decode cX8_size 14 = .ok (.aload_n 0, 1) := by decide +kernel
theorem dX8_size_15 : decode cX8_size 15 = .ok (.getfield 17, 3) := by decide +kernel
theorem dX8_size_18 : decode cX8_size 18 = .ok (.iload_n 1, 1) := by decide +kernel
theorem dX8_size_19 : decode cX8_size 19 = .ok (.laload, 1) := by decide +kernel
theorem dX8_size_20 : decode cX8_size 20 = .ok (.invokevirtual 79, 3) := by decide +kernel
theorem dX8_size_23 : decode cX8_size 23 = .ok (.goto 6, 3) := by decide +kernel
theorem dX8_size_26 : decode cX8_size 26 = .ok (.ldc2_w 24, 3) := by decide +kernel
theorem dX8_size_29 : decode cX8_size 29 = .ok (.lreturn, 1) := by decide +kernel
theorem dX8_fits_0 : decode cX8_fits 0 = .ok (.lload_n 0, 1) := by decide +kernel
theorem dX8_fits_1 : decode cX8_fits 1 = .ok (.ldc2_w 96, 3) := by decide +kernel
theorem dX8_fits_4 : decode cX8_fits 4 = .ok (.ldc2_w 98, 3) := by decide +kernel
theorem dX8_fits_7 : decode cX8_fits 7 = .ok (.invokestatic 62, 3) := by decide +kernel
theorem dX8_fits_10 : decode cX8_fits 10 = .ok (.ifCond .eq 20, 3) := by decide +kernel
theorem dX8_fits_13 : decode cX8_fits 13 = .ok (.lload_n 2, 1) := by decide +kernel
theorem dX8_fits_14 : decode cX8_fits 14 = .ok (.ldc2_w 96, 3) := by decide +kernel
theorem dX8_fits_17 : decode cX8_fits 17 = .ok (.ldc2_w 98, 3) := by decide +kernel
theorem dX8_fits_20 : decode cX8_fits 20 = .ok (.invokestatic 62, 3) := by decide +kernel
theorem dX8_fits_23 : decode cX8_fits 23 = .ok (.ifCond .eq 7, 3) := by decide +kernel
theorem dX8_fits_26 : decode cX8_fits 26 = .ok (.iconst 1, 1) := by decide +kernel
theorem dX8_fits_27 : decode cX8_fits 27 = .ok (.goto 4, 3) := by decide +kernel
theorem dX8_fits_30 : decode cX8_fits 30 = .ok (.iconst 0, 1) := by decide +kernel
theorem dX8_fits_31 : decode cX8_fits 31 = .ok (.ireturn, 1) := by decide +kernel
theorem dX8_keep_0 : decode cX8_keep 0 = .ok (.aload_n 0, 1) := by decide +kernel
theorem dX8_keep_1 : decode cX8_keep 1 = .ok (.getfield 69, 3) := by decide +kernel
theorem dX8_keep_4 : decode cX8_keep 4 = .ok (.aload_n 0, 1) := by decide +kernel
theorem dX8_keep_5 : decode cX8_keep 5 = .ok (.getfield 72, 3) := by decide +kernel
theorem dX8_keep_8 : decode cX8_keep 8 = .ok (.invokestatic 101, 3) := by decide +kernel
theorem dX8_keep_11 : decode cX8_keep 11 = .ok (.ifCond .ne 6, 3) := by decide +kernel
theorem dX8_keep_14 : decode cX8_keep 14 = .ok (.bipush (-3), 2) := by decide +kernel
theorem dX8_keep_16 : decode cX8_keep 16 = .ok (.ireturn, 1) := by decide +kernel
theorem dX8_keep_17 : decode cX8_keep 17 = .ok (.aload_n 0, 1) := by decide +kernel
theorem dX8_keep_18 : decode cX8_keep 18 = .ok (.getfield 13, 3) := by decide +kernel
theorem dX8_keep_21 : decode cX8_keep 21 = .ok (.iload_n 1, 1) := by decide +kernel
theorem dX8_keep_22 : decode cX8_keep 22 = .ok (.aload_n 0, 1) := by decide +kernel
theorem dX8_keep_23 : decode cX8_keep 23 = .ok (.getfield 69, 3) := by decide +kernel
theorem dX8_keep_26 : decode cX8_keep 26 = .ok (.lastore, 1) := by decide +kernel
theorem dX8_keep_27 : decode cX8_keep 27 = .ok (.aload_n 0, 1) := by decide +kernel
theorem dX8_keep_28 : decode cX8_keep 28 = .ok (.getfield 17, 3) := by decide +kernel
theorem dX8_keep_31 : decode cX8_keep 31 = .ok (.iload_n 1, 1) := by decide +kernel
theorem dX8_keep_32 : decode cX8_keep 32 = .ok (.aload_n 0, 1) := by decide +kernel
theorem dX8_keep_33 : decode cX8_keep 33 = .ok (.getfield 72, 3) := by decide +kernel
theorem dX8_keep_36 : decode cX8_keep 36 = .ok (.lastore, 1) := by decide +kernel
theorem dX8_keep_37 : decode cX8_keep 37 = .ok (.iconst 0, 1) := by decide +kernel
theorem dX8_keep_38 : decode cX8_keep 38 = .ok (.ireturn, 1) := by decide +kernel
theorem dX8_floor_0 : decode cX8_floor 0 = .ok (.lload_n 0, 1) := by decide +kernel
theorem dX8_floor_1 : decode cX8_floor 1 = .ok (.lload_n 2, 1) := by decide +kernel
theorem dX8_floor_2 : decode cX8_floor 2 = .ok (.ldiv, 1) := by decide +kernel
theorem dX8_floor_3 : decode cX8_floor 3 = .ok (.lstore 4, 2) := by decide +kernel
theorem dX8_floor_5 : decode cX8_floor 5 = .ok (.lload_n 0, 1) := by decide +kernel
theorem dX8_floor_6 : decode cX8_floor 6 = .ok (.lload_n 2, 1) := by decide +kernel
theorem dX8_floor_7 : decode cX8_floor 7 = .ok (.lrem, 1) := by decide +kernel
theorem dX8_floor_8 : decode cX8_floor 8 = .ok (.lconst 0, 1) := by decide +kernel
theorem dX8_floor_9 : decode cX8_floor 9 = .ok (.lcmp, 1) := by decide +kernel
theorem dX8_floor_10 : decode cX8_floor 10 = .ok (.ifCond .eq 35, 3) := by decide +kernel
theorem dX8_floor_13 : decode cX8_floor 13 = .ok (.lload_n 0, 1) := by decide +kernel
theorem dX8_floor_14 : decode cX8_floor 14 = .ok (.lconst 0, 1) := by decide +kernel
theorem dX8_floor_15 : decode cX8_floor 15 = .ok (.lcmp, 1) := by decide +kernel
theorem dX8_floor_16 : decode cX8_floor 16 = .ok (.ifCond .ge 7, 3) := by decide +kernel
theorem dX8_floor_19 : decode cX8_floor 19 = .ok (.iconst 1, 1) := by decide +kernel
theorem dX8_floor_20 : decode cX8_floor 20 = .ok (.goto 4, 3) := by decide +kernel
theorem dX8_floor_23 : decode cX8_floor 23 = .ok (.iconst 0, 1) := by decide +kernel
theorem dX8_floor_24 : decode cX8_floor 24 = .ok (.lload_n 2, 1) := by decide +kernel
theorem dX8_floor_25 : decode cX8_floor 25 = .ok (.lconst 0, 1) := by decide +kernel
theorem dX8_floor_26 : decode cX8_floor 26 = .ok (.lcmp, 1) := by decide +kernel
theorem dX8_floor_27 : decode cX8_floor 27 = .ok (.ifCond .ge 7, 3) := by decide +kernel
theorem dX8_floor_30 : decode cX8_floor 30 = .ok (.iconst 1, 1) := by decide +kernel
theorem dX8_floor_31 : decode cX8_floor 31 = .ok (.goto 4, 3) := by decide +kernel
theorem dX8_floor_34 : decode cX8_floor 34 = .ok (.iconst 0, 1) := by decide +kernel
theorem dX8_floor_35 : decode cX8_floor 35 = .ok (.if_icmp .eq 10, 3) := by decide +kernel
theorem dX8_floor_38 : decode cX8_floor 38 = .ok (.lload 4, 2) := by decide +kernel
theorem dX8_floor_40 : decode cX8_floor 40 = .ok (.lconst 1, 1) := by decide +kernel
theorem dX8_floor_41 : decode cX8_floor 41 = .ok (.lsub, 1) := by decide +kernel
theorem dX8_floor_42 : decode cX8_floor 42 = .ok (.goto 5, 3) := by decide +kernel
theorem dX8_floor_45 : decode cX8_floor 45 = .ok (.lload 4, 2) := by decide +kernel
theorem dX8_floor_47 : decode cX8_floor 47 = .ok (.lreturn, 1) := by decide +kernel
theorem dX8_rest_0 : decode cX8_rest 0 = .ok (.lload_n 0, 1) := by decide +kernel
theorem dX8_rest_1 : decode cX8_rest 1 = .ok (.lload_n 0, 1) := by decide +kernel
theorem dX8_rest_2 : decode cX8_rest 2 = .ok (.lload_n 2, 1) := by decide +kernel
theorem dX8_rest_3 : decode cX8_rest 3 = .ok (.invokestatic 105, 3) := by decide +kernel
theorem dX8_rest_6 : decode cX8_rest 6 = .ok (.lload_n 2, 1) := by decide +kernel
theorem dX8_rest_7 : decode cX8_rest 7 = .ok (.lmul, 1) := by decide +kernel
theorem dX8_rest_8 : decode cX8_rest 8 = .ok (.lsub, 1) := by decide +kernel
theorem dX8_rest_9 : decode cX8_rest 9 = .ok (.lreturn, 1) := by decide +kernel
theorem dX8_divide_0 : decode cX8_divide 0 = .ok (.aload_n 0, 1) := by decide +kernel
theorem dX8_divide_1 : decode cX8_divide 1 = .ok (.lload 5, 2) := by decide +kernel
theorem dX8_divide_3 : decode cX8_divide 3 = .ok (.lload 7, 2) := by decide +kernel
theorem dX8_divide_5 : decode cX8_divide 5 = .ok (.invokevirtual 79, 3) := by decide +kernel
theorem dX8_divide_8 : decode cX8_divide 8 = .ok (.lstore 9, 2) := by decide +kernel
theorem dX8_divide_10 : decode cX8_divide 10 = .ok (.aload_n 0, 1) := by decide +kernel
theorem dX8_divide_11 : decode cX8_divide 11 = .ok (.lload_n 1, 1) := by decide +kernel
theorem dX8_divide_12 : decode cX8_divide 12 = .ok (.lload_n 3, 1) := by decide +kernel
theorem dX8_divide_13 : decode cX8_divide 13 = .ok (.lload 5, 2) := by decide +kernel
theorem dX8_divide_15 : decode cX8_divide 15 = .ok (.aload_n 0, 1) := by decide +kernel
theorem dX8_divide_16 : decode cX8_divide 16 = .ok (.getfield 66, 3) := by decide +kernel
theorem dX8_divide_19 : decode cX8_divide 19 = .ok (.lload 7, 2) := by decide +kernel
theorem dX8_divide_21 : decode cX8_divide 21 = .ok (.lmul, 1) := by decide +kernel
theorem dX8_divide_22 : decode cX8_divide 22 = .ok (.ladd, 1) := by decide +kernel
theorem dX8_divide_23 : decode cX8_divide 23 = .ok (.lload 7, 2) := by decide +kernel
theorem dX8_divide_25 : decode cX8_divide 25 = .ok (.lneg, 1) := by decide +kernel
theorem dX8_divide_26 : decode cX8_divide 26 = .ok (.invokevirtual 108, 3) := by decide +kernel
theorem dX8_divide_29 : decode cX8_divide 29 = .ok (.aload_n 0, 1) := by decide +kernel
theorem dX8_divide_30 : decode cX8_divide 30 = .ok (.getfield 69, 3) := by decide +kernel
theorem dX8_divide_33 : decode cX8_divide 33 = .ok (.lload 9, 2) := by decide +kernel
theorem dX8_divide_35 : decode cX8_divide 35 = .ok (.invokestatic 105, 3) := by decide +kernel
theorem dX8_divide_38 : decode cX8_divide 38 = .ok (.ldc2_w 85, 3) := by decide +kernel
theorem dX8_divide_41 : decode cX8_divide 41 = .ok (.lsub, 1) := by decide +kernel
theorem dX8_divide_42 : decode cX8_divide 42 = .ok (.lstore 11, 2) := by decide +kernel
theorem dX8_divide_44 : decode cX8_divide 44 = .ok (.aload_n 0, 1) := by decide +kernel
theorem dX8_divide_45 : decode cX8_divide 45 = .ok (.getfield 72, 3) := by decide +kernel
theorem dX8_divide_48 : decode cX8_divide 48 = .ok (.lload 9, 2) := by decide +kernel
theorem dX8_divide_50 : decode cX8_divide 50 = .ok (.invokestatic 105, 3) := by decide +kernel
theorem dX8_divide_53 : decode cX8_divide 53 = .ok (.ldc2_w 85, 3) := by decide +kernel
theorem dX8_divide_56 : decode cX8_divide 56 = .ok (.lsub, 1) := by decide +kernel
theorem dX8_divide_57 : decode cX8_divide 57 = .ok (.lstore 13, 2) := by decide +kernel
theorem dX8_divide_59 : decode cX8_divide 59 = .ok (.ldc2_w 24, 3) := by decide +kernel
theorem dX8_divide_62 : decode cX8_divide 62 = .ok (.lstore 15, 2) := by decide +kernel
theorem dX8_divide_64 : decode cX8_divide 64 = .ok (.lconst 0, 1) := by decide +kernel
theorem dX8_divide_65 : decode cX8_divide 65 = .ok (.lstore 17, 2) := by decide +kernel
theorem dX8_divide_67 : decode cX8_divide 67 = .ok (.lconst 0, 1) := by decide +kernel
theorem dX8_divide_68 : decode cX8_divide 68 = .ok (.lstore 19, 2) := by decide +kernel
theorem dX8_divide_70 : decode cX8_divide 70 = .ok (.lload 11, 2) := by decide +kernel
theorem dX8_divide_72 : decode cX8_divide 72 = .ok (.lstore 21, 2) := by decide +kernel
theorem dX8_divide_74 : decode cX8_divide 74 = .ok (.lload 21, 2) := by decide +kernel
theorem dX8_divide_76 : decode cX8_divide 76 = .ok (.lload 11, 2) := by decide +kernel
theorem dX8_divide_78 : decode cX8_divide 78 = .ok (.ldc2_w 112, 3) := by decide +kernel
theorem dX8_divide_81 : decode cX8_divide 81 = .ok (.ladd, 1) := by decide +kernel
theorem dX8_divide_82 : decode cX8_divide 82 = .ok (.lcmp, 1) := by decide +kernel
theorem dX8_divide_83 : decode cX8_divide 83 = .ok (.ifCond .ge 114, 3) := by decide +kernel
theorem dX8_divide_86 : decode cX8_divide 86 = .ok (.lload 13, 2) := by decide +kernel
theorem dX8_divide_88 : decode cX8_divide 88 = .ok (.lstore 23, 2) := by decide +kernel
theorem dX8_divide_90 : decode cX8_divide 90 = .ok (.lload 23, 2) := by decide +kernel
theorem dX8_divide_92 : decode cX8_divide 92 = .ok (.lload 13, 2) := by decide +kernel
theorem dX8_divide_94 : decode cX8_divide 94 = .ok (.ldc2_w 112, 3) := by decide +kernel
theorem dX8_divide_97 : decode cX8_divide 97 = .ok (.ladd, 1) := by decide +kernel
theorem dX8_divide_98 : decode cX8_divide 98 = .ok (.lcmp, 1) := by decide +kernel
theorem dX8_divide_99 : decode cX8_divide 99 = .ok (.ifCond .ge 89, 3) := by decide +kernel
theorem dX8_divide_102 : decode cX8_divide 102 = .ok (.aload_n 0, 1) := by decide +kernel
theorem dX8_divide_103 : decode cX8_divide 103 = .ok (.lload 21, 2) := by decide +kernel
theorem dX8_divide_105 : decode cX8_divide 105 = .ok (.lload 23, 2) := by decide +kernel
theorem dX8_divide_107 : decode cX8_divide 107 = .ok (.lload 5, 2) := by decide +kernel
theorem dX8_divide_109 : decode cX8_divide 109 = .ok (.lload 7, 2) := by decide +kernel
theorem dX8_divide_111 : decode cX8_divide 111 = .ok (.invokevirtual 108, 3) := by decide +kernel
theorem dX8_divide_114 : decode cX8_divide 114 = .ok (.aload_n 0, 1) := by decide +kernel
theorem dX8_divide_115 : decode cX8_divide 115 = .ok (.lload_n 1, 1) := by decide +kernel
theorem dX8_divide_116 : decode cX8_divide 116 = .ok (.aload_n 0, 1) := by decide +kernel
theorem dX8_divide_117 : decode cX8_divide 117 = .ok (.getfield 69, 3) := by decide +kernel
theorem dX8_divide_120 : decode cX8_divide 120 = .ok (.lsub, 1) := by decide +kernel
theorem dX8_divide_121 : decode cX8_divide 121 = .ok (.lload_n 3, 1) := by decide +kernel
theorem dX8_divide_122 : decode cX8_divide 122 = .ok (.aload_n 0, 1) := by decide +kernel
theorem dX8_divide_123 : decode cX8_divide 123 = .ok (.getfield 72, 3) := by decide +kernel
theorem dX8_divide_126 : decode cX8_divide 126 = .ok (.lsub, 1) := by decide +kernel
theorem dX8_divide_127 : decode cX8_divide 127 = .ok (.invokevirtual 79, 3) := by decide +kernel
theorem dX8_divide_130 : decode cX8_divide 130 = .ok (.lstore 25, 2) := by decide +kernel
theorem dX8_divide_132 : decode cX8_divide 132 = .ok (.lload 15, 2) := by decide +kernel
theorem dX8_divide_134 : decode cX8_divide 134 = .ok (.lconst 0, 1) := by decide +kernel
theorem dX8_divide_135 : decode cX8_divide 135 = .ok (.lcmp, 1) := by decide +kernel
theorem dX8_divide_136 : decode cX8_divide 136 = .ok (.ifCond .lt 11, 3) := by decide +kernel
theorem dX8_divide_139 : decode cX8_divide 139 = .ok (.lload 25, 2) := by decide +kernel
theorem dX8_divide_141 : decode cX8_divide 141 = .ok (.lload 15, 2) := by decide +kernel
theorem dX8_divide_143 : decode cX8_divide 143 = .ok (.lcmp, 1) := by decide +kernel
theorem dX8_divide_144 : decode cX8_divide 144 = .ok (.ifCond .ge 35, 3) := by decide +kernel
theorem dX8_divide_147 : decode cX8_divide 147 = .ok (.lload 25, 2) := by decide +kernel
theorem dX8_divide_149 : decode cX8_divide 149 = .ok (.lstore 15, 2) := by decide +kernel
theorem dX8_divide_151 : decode cX8_divide 151 = .ok (.aload_n 0, 1) := by decide +kernel
theorem dX8_divide_152 : decode cX8_divide 152 = .ok (.lload 21, 2) := by decide +kernel
theorem dX8_divide_154 : decode cX8_divide 154 = .ok (.putfield 114, 3) := by decide +kernel
theorem dX8_divide_157 : decode cX8_divide 157 = .ok (.aload_n 0, 1) := by decide +kernel
theorem dX8_divide_158 : decode cX8_divide 158 = .ok (.lload 23, 2) := by decide +kernel
theorem dX8_divide_160 : decode cX8_divide 160 = .ok (.putfield 117, 3) := by decide +kernel
theorem dX8_divide_163 : decode cX8_divide 163 = .ok (.lload_n 1, 1) := by decide +kernel
theorem dX8_divide_164 : decode cX8_divide 164 = .ok (.aload_n 0, 1) := by decide +kernel
theorem dX8_divide_165 : decode cX8_divide 165 = .ok (.getfield 69, 3) := by decide +kernel
theorem dX8_divide_168 : decode cX8_divide 168 = .ok (.lsub, 1) := by decide +kernel
theorem dX8_divide_169 : decode cX8_divide 169 = .ok (.lstore 17, 2) := by decide +kernel
theorem dX8_divide_171 : decode cX8_divide 171 = .ok (.lload_n 3, 1) := by decide +kernel
theorem dX8_divide_172 : decode cX8_divide 172 = .ok (.aload_n 0, 1) := by decide +kernel
theorem dX8_divide_173 : decode cX8_divide 173 = .ok (.getfield 72, 3) := by decide +kernel
theorem dX8_divide_176 : decode cX8_divide 176 = .ok (.lsub, 1) := by decide +kernel
theorem dX8_divide_177 : decode cX8_divide 177 = .ok (.lstore 19, 2) := by decide +kernel
theorem dX8_divide_179 : decode cX8_divide 179 = .ok (.lload 23, 2) := by decide +kernel
theorem dX8_divide_181 : decode cX8_divide 181 = .ok (.lconst 1, 1) := by decide +kernel
theorem dX8_divide_182 : decode cX8_divide 182 = .ok (.ladd, 1) := by decide +kernel
theorem dX8_divide_183 : decode cX8_divide 183 = .ok (.lstore 23, 2) := by decide +kernel
theorem dX8_divide_185 : decode cX8_divide 185 = .ok (.goto (-95), 3) := by decide +kernel
theorem dX8_divide_188 : decode cX8_divide 188 = .ok (.lload 21, 2) := by decide +kernel
theorem dX8_divide_190 : decode cX8_divide 190 = .ok (.lconst 1, 1) := by decide +kernel
theorem dX8_divide_191 : decode cX8_divide 191 = .ok (.ladd, 1) := by decide +kernel
theorem dX8_divide_192 : decode cX8_divide 192 = .ok (.lstore 21, 2) := by decide +kernel
theorem dX8_divide_194 : decode cX8_divide 194 = .ok (.goto (-120), 3) := by decide +kernel
theorem dX8_divide_197 : decode cX8_divide 197 = .ok (.aload_n 0, 1) := by decide +kernel
theorem dX8_divide_198 : decode cX8_divide 198 = .ok (.lload 17, 2) := by decide +kernel
theorem dX8_divide_200 : decode cX8_divide 200 = .ok (.lload 19, 2) := by decide +kernel
theorem dX8_divide_202 : decode cX8_divide 202 = .ok (.invokevirtual 75, 3) := by decide +kernel
theorem dX8_divide_205 : decode cX8_divide 205 = .ok (.return_, 1) := by decide +kernel
theorem dX8_isPart_0 : decode cX8_isPart 0 = .ok (.lload 5, 2) := by decide +kernel
theorem dX8_isPart_2 : decode cX8_isPart 2 = .ok (.lconst 0, 1) := by decide +kernel
theorem dX8_isPart_3 : decode cX8_isPart 3 = .ok (.lcmp, 1) := by decide +kernel
theorem dX8_isPart_4 : decode cX8_isPart 4 = .ok (.ifCond .ne 12, 3) := by decide +kernel
theorem dX8_isPart_7 : decode cX8_isPart 7 = .ok (.lload 7, 2) := by decide +kernel
theorem dX8_isPart_9 : decode cX8_isPart 9 = .ok (.lconst 0, 1) := by decide +kernel
theorem dX8_isPart_10 : decode cX8_isPart 10 = .ok (.lcmp, 1) := by decide +kernel
theorem dX8_isPart_11 : decode cX8_isPart 11 = .ok (.ifCond .ne 5, 3) := by decide +kernel
theorem dX8_isPart_14 : decode cX8_isPart 14 = .ok (.iconst 0, 1) := by decide +kernel
theorem dX8_isPart_15 : decode cX8_isPart 15 = .ok (.ireturn, 1) := by decide +kernel
theorem dX8_isPart_16 : decode cX8_isPart 16 = .ok (.aload_n 0, 1) := by decide +kernel
theorem dX8_isPart_17 : decode cX8_isPart 17 = .ok (.lload 5, 2) := by decide +kernel
theorem dX8_isPart_19 : decode cX8_isPart 19 = .ok (.lload 7, 2) := by decide +kernel
theorem dX8_isPart_21 : decode cX8_isPart 21 = .ok (.invokevirtual 79, 3) := by decide +kernel
theorem dX8_isPart_24 : decode cX8_isPart 24 = .ok (.lstore 9, 2) := by decide +kernel
theorem dX8_isPart_26 : decode cX8_isPart 26 = .ok (.aload_n 0, 1) := by decide +kernel
theorem dX8_isPart_27 : decode cX8_isPart 27 = .ok (.lload_n 1, 1) := by decide +kernel
theorem dX8_isPart_28 : decode cX8_isPart 28 = .ok (.lload_n 3, 1) := by decide +kernel
theorem dX8_isPart_29 : decode cX8_isPart 29 = .ok (.lload 5, 2) := by decide +kernel
theorem dX8_isPart_31 : decode cX8_isPart 31 = .ok (.aload_n 0, 1) := by decide +kernel
theorem dX8_isPart_32 : decode cX8_isPart 32 = .ok (.getfield 66, 3) := by decide +kernel
theorem dX8_isPart_35 : decode cX8_isPart 35 = .ok (.lload 7, 2) := by decide +kernel
theorem dX8_isPart_37 : decode cX8_isPart 37 = .ok (.lmul, 1) := by decide +kernel
theorem dX8_isPart_38 : decode cX8_isPart 38 = .ok (.ladd, 1) := by decide +kernel
theorem dX8_isPart_39 : decode cX8_isPart 39 = .ok (.lload 7, 2) := by decide +kernel
theorem dX8_isPart_41 : decode cX8_isPart 41 = .ok (.lneg, 1) := by decide +kernel
theorem dX8_isPart_42 : decode cX8_isPart 42 = .ok (.invokevirtual 108, 3) := by decide +kernel
theorem dX8_isPart_45 : decode cX8_isPart 45 = .ok (.aload_n 0, 1) := by decide +kernel
theorem dX8_isPart_46 : decode cX8_isPart 46 = .ok (.getfield 69, 3) := by decide +kernel
theorem dX8_isPart_49 : decode cX8_isPart 49 = .ok (.lload 9, 2) := by decide +kernel
theorem dX8_isPart_51 : decode cX8_isPart 51 = .ok (.lrem, 1) := by decide +kernel
theorem dX8_isPart_52 : decode cX8_isPart 52 = .ok (.lconst 0, 1) := by decide +kernel
theorem dX8_isPart_53 : decode cX8_isPart 53 = .ok (.lcmp, 1) := by decide +kernel
theorem dX8_isPart_54 : decode cX8_isPart 54 = .ok (.ifCond .ne 19, 3) := by decide +kernel
theorem dX8_isPart_57 : decode cX8_isPart 57 = .ok (.aload_n 0, 1) := by decide +kernel
theorem dX8_isPart_58 : decode cX8_isPart 58 = .ok (.getfield 72, 3) := by decide +kernel
theorem dX8_isPart_61 : decode cX8_isPart 61 = .ok (.lload 9, 2) := by decide +kernel
theorem dX8_isPart_63 : decode cX8_isPart 63 = .ok (.lrem, 1) := by decide +kernel
theorem dX8_isPart_64 : decode cX8_isPart 64 = .ok (.lconst 0, 1) := by decide +kernel
theorem dX8_isPart_65 : decode cX8_isPart 65 = .ok (.lcmp, 1) := by decide +kernel
theorem dX8_isPart_66 : decode cX8_isPart 66 = .ok (.ifCond .ne 7, 3) := by decide +kernel
theorem dX8_isPart_69 : decode cX8_isPart 69 = .ok (.iconst 1, 1) := by decide +kernel
theorem dX8_isPart_70 : decode cX8_isPart 70 = .ok (.goto 4, 3) := by decide +kernel
theorem dX8_isPart_73 : decode cX8_isPart 73 = .ok (.iconst 0, 1) := by decide +kernel
theorem dX8_isPart_74 : decode cX8_isPart 74 = .ok (.ireturn, 1) := by decide +kernel
theorem dX8_shape_0 : decode cX8_shape 0 = .ok (.lload_n 1, 1) := by decide +kernel
theorem dX8_shape_1 : decode cX8_shape 1 = .ok (.lstore 5, 2) := by decide +kernel
theorem dX8_shape_3 : decode cX8_shape 3 = .ok (.lload_n 3, 1) := by decide +kernel
theorem dX8_shape_4 : decode cX8_shape 4 = .ok (.lstore 7, 2) := by decide +kernel
theorem dX8_shape_6 : decode cX8_shape 6 = .ok (.aload_n 0, 1) := by decide +kernel
theorem dX8_shape_7 : decode cX8_shape 7 = .ok (.bipush (-4), 2) := by decide +kernel
theorem dX8_shape_9 : decode cX8_shape 9 = .ok (.putfield 120, 3) := by decide +kernel
theorem dX8_shape_12 : decode cX8_shape 12 = .ok (.iconst 0, 1) := by decide +kernel
theorem dX8_shape_13 : decode cX8_shape 13 = .ok (.istore 9, 2) := by decide +kernel
theorem dX8_shape_15 : decode cX8_shape 15 = .ok (.iload 9, 2) := by decide +kernel
theorem dX8_shape_17 : decode cX8_shape 17 = .ok (.aload_n 0, 1) := by decide +kernel
theorem dX8_shape_18 : decode cX8_shape 18 = .ok (.getfield 20, 3) := by decide +kernel
theorem dX8_shape_21 : decode cX8_shape 21 = .ok (.if_icmp .ge 86, 3) := by decide +kernel
theorem dX8_shape_24 : decode cX8_shape 24 = .ok (.aload_n 0, 1) := by decide +kernel
theorem dX8_shape_25 : decode cX8_shape 25 = .ok (.lload_n 1, 1) := by decide +kernel
theorem dX8_shape_26 : decode cX8_shape 26 = .ok (.lload_n 3, 1) := by decide +kernel
theorem dX8_shape_27 : decode cX8_shape 27 = .ok (.aload_n 0, 1) := by decide +kernel
theorem dX8_shape_28 : decode cX8_shape 28 = .ok (.getfield 26, 3) := by decide +kernel
theorem dX8_shape_31 : decode cX8_shape 31 = .ok (.iload 9, 2) := by decide +kernel
theorem dX8_shape_33 : decode cX8_shape 33 = .ok (.laload, 1) := by decide +kernel
theorem dX8_shape_34 : decode cX8_shape 34 = .ok (.aload_n 0, 1) := by decide +kernel
theorem dX8_shape_35 : decode cX8_shape 35 = .ok (.getfield 29, 3) := by decide +kernel
theorem dX8_shape_38 : decode cX8_shape 38 = .ok (.iload 9, 2) := by decide +kernel
theorem dX8_shape_40 : decode cX8_shape 40 = .ok (.laload, 1) := by decide +kernel
theorem dX8_shape_41 : decode cX8_shape 41 = .ok (.invokevirtual 108, 3) := by decide +kernel
theorem dX8_shape_44 : decode cX8_shape 44 = .ok (.aload_n 0, 1) := by decide +kernel
theorem dX8_shape_45 : decode cX8_shape 45 = .ok (.getfield 120, 3) := by decide +kernel
theorem dX8_shape_48 : decode cX8_shape 48 = .ok (.bipush (-4), 2) := by decide +kernel
theorem dX8_shape_50 : decode cX8_shape 50 = .ok (.if_icmp .eq 33, 3) := by decide +kernel
theorem dX8_shape_53 : decode cX8_shape 53 = .ok (.aload_n 0, 1) := by decide +kernel
theorem dX8_shape_54 : decode cX8_shape 54 = .ok (.getfield 69, 3) := by decide +kernel
theorem dX8_shape_57 : decode cX8_shape 57 = .ok (.lload 5, 2) := by decide +kernel
theorem dX8_shape_59 : decode cX8_shape 59 = .ok (.lcmp, 1) := by decide +kernel
theorem dX8_shape_60 : decode cX8_shape 60 = .ok (.ifCond .gt 23, 3) := by decide +kernel
theorem dX8_shape_63 : decode cX8_shape 63 = .ok (.aload_n 0, 1) := by decide +kernel
theorem dX8_shape_64 : decode cX8_shape 64 = .ok (.getfield 69, 3) := by decide +kernel
theorem dX8_shape_67 : decode cX8_shape 67 = .ok (.lload 5, 2) := by decide +kernel
theorem dX8_shape_69 : decode cX8_shape 69 = .ok (.lcmp, 1) := by decide +kernel
theorem dX8_shape_70 : decode cX8_shape 70 = .ok (.ifCond .ne 31, 3) := by decide +kernel
theorem dX8_shape_73 : decode cX8_shape 73 = .ok (.aload_n 0, 1) := by decide +kernel
theorem dX8_shape_74 : decode cX8_shape 74 = .ok (.getfield 72, 3) := by decide +kernel
theorem dX8_shape_77 : decode cX8_shape 77 = .ok (.lload 7, 2) := by decide +kernel
theorem dX8_shape_79 : decode cX8_shape 79 = .ok (.lcmp, 1) := by decide +kernel
theorem dX8_shape_80 : decode cX8_shape 80 = .ok (.ifCond .le 21, 3) := by decide +kernel
theorem dX8_shape_83 : decode cX8_shape 83 = .ok (.aload_n 0, 1) := by decide +kernel
theorem dX8_shape_84 : decode cX8_shape 84 = .ok (.getfield 69, 3) := by decide +kernel
theorem dX8_shape_87 : decode cX8_shape 87 = .ok (.lstore 5, 2) := by decide +kernel
theorem dX8_shape_89 : decode cX8_shape 89 = .ok (.aload_n 0, 1) := by decide +kernel
theorem dX8_shape_90 : decode cX8_shape 90 = .ok (.getfield 72, 3) := by decide +kernel
theorem dX8_shape_93 : decode cX8_shape 93 = .ok (.lstore 7, 2) := by decide +kernel
theorem dX8_shape_95 : decode cX8_shape 95 = .ok (.aload_n 0, 1) := by decide +kernel
theorem dX8_shape_96 : decode cX8_shape 96 = .ok (.iload 9, 2) := by decide +kernel
theorem dX8_shape_98 : decode cX8_shape 98 = .ok (.putfield 120, 3) := by decide +kernel
theorem dX8_shape_101 : decode cX8_shape 101 = .ok (.iinc 9 1, 3) := by decide +kernel
theorem dX8_shape_104 : decode cX8_shape 104 = .ok (.goto (-89), 3) := by decide +kernel
theorem dX8_shape_107 : decode cX8_shape 107 = .ok (.aload_n 0, 1) := by decide +kernel
theorem dX8_shape_108 : decode cX8_shape 108 = .ok (.lload 5, 2) := by decide +kernel
theorem dX8_shape_110 : decode cX8_shape 110 = .ok (.lload 7, 2) := by decide +kernel
theorem dX8_shape_112 : decode cX8_shape 112 = .ok (.invokevirtual 75, 3) := by decide +kernel
theorem dX8_shape_115 : decode cX8_shape 115 = .ok (.return_, 1) := by decide +kernel
theorem dX8_common_0 : decode cX8_common 0 = .ok (.lload_n 1, 1) := by decide +kernel
theorem dX8_common_1 : decode cX8_common 1 = .ok (.lstore 9, 2) := by decide +kernel
theorem dX8_common_3 : decode cX8_common 3 = .ok (.lload_n 3, 1) := by decide +kernel
theorem dX8_common_4 : decode cX8_common 4 = .ok (.lstore 11, 2) := by decide +kernel
theorem dX8_common_6 : decode cX8_common 6 = .ok (.lload 5, 2) := by decide +kernel
theorem dX8_common_8 : decode cX8_common 8 = .ok (.lstore 13, 2) := by decide +kernel
theorem dX8_common_10 : decode cX8_common 10 = .ok (.lload 7, 2) := by decide +kernel
theorem dX8_common_12 : decode cX8_common 12 = .ok (.lstore 15, 2) := by decide +kernel
theorem dX8_common_14 : decode cX8_common 14 = .ok (.lload 13, 2) := by decide +kernel
theorem dX8_common_16 : decode cX8_common 16 = .ok (.lconst 0, 1) := by decide +kernel
theorem dX8_common_17 : decode cX8_common 17 = .ok (.lcmp, 1) := by decide +kernel
theorem dX8_common_18 : decode cX8_common 18 = .ok (.ifCond .ne 10, 3) := by decide +kernel
theorem dX8_common_21 : decode cX8_common 21 = .ok (.lload 15, 2) := by decide +kernel
theorem dX8_common_23 : decode cX8_common 23 = .ok (.lconst 0, 1) := by decide +kernel
theorem dX8_common_24 : decode cX8_common 24 = .ok (.lcmp, 1) := by decide +kernel
theorem dX8_common_25 : decode cX8_common 25 = .ok (.ifCond .eq 38, 3) := by decide +kernel
theorem dX8_common_28 : decode cX8_common 28 = .ok (.aload_n 0, 1) := by decide +kernel
theorem dX8_common_29 : decode cX8_common 29 = .ok (.lload 9, 2) := by decide +kernel
theorem dX8_common_31 : decode cX8_common 31 = .ok (.lload 11, 2) := by decide +kernel
theorem dX8_common_33 : decode cX8_common 33 = .ok (.lload 13, 2) := by decide +kernel
theorem dX8_common_35 : decode cX8_common 35 = .ok (.lload 15, 2) := by decide +kernel
theorem dX8_common_37 : decode cX8_common 37 = .ok (.invokevirtual 123, 3) := by decide +kernel
theorem dX8_common_40 : decode cX8_common 40 = .ok (.lload 13, 2) := by decide +kernel
theorem dX8_common_42 : decode cX8_common 42 = .ok (.lstore 9, 2) := by decide +kernel
theorem dX8_common_44 : decode cX8_common 44 = .ok (.lload 15, 2) := by decide +kernel
theorem dX8_common_46 : decode cX8_common 46 = .ok (.lstore 11, 2) := by decide +kernel
theorem dX8_common_48 : decode cX8_common 48 = .ok (.aload_n 0, 1) := by decide +kernel
theorem dX8_common_49 : decode cX8_common 49 = .ok (.getfield 69, 3) := by decide +kernel
theorem dX8_common_52 : decode cX8_common 52 = .ok (.lstore 13, 2) := by decide +kernel
theorem dX8_common_54 : decode cX8_common 54 = .ok (.aload_n 0, 1) := by decide +kernel
theorem dX8_common_55 : decode cX8_common 55 = .ok (.getfield 72, 3) := by decide +kernel
theorem dX8_common_58 : decode cX8_common 58 = .ok (.lstore 15, 2) := by decide +kernel
theorem dX8_common_60 : decode cX8_common 60 = .ok (.goto (-46), 3) := by decide +kernel
theorem dX8_common_63 : decode cX8_common 63 = .ok (.aload_n 0, 1) := by decide +kernel
theorem dX8_common_64 : decode cX8_common 64 = .ok (.lload 9, 2) := by decide +kernel
theorem dX8_common_66 : decode cX8_common 66 = .ok (.lload 11, 2) := by decide +kernel
theorem dX8_common_68 : decode cX8_common 68 = .ok (.invokevirtual 126, 3) := by decide +kernel
theorem dX8_common_71 : decode cX8_common 71 = .ok (.return_, 1) := by decide +kernel
theorem dX8_isNought_0 : decode cX8_isNought 0 = .ok (.aload_n 0, 1) := by decide +kernel
theorem dX8_isNought_1 : decode cX8_isNought 1 = .ok (.getfield 13, 3) := by decide +kernel
theorem dX8_isNought_4 : decode cX8_isNought 4 = .ok (.iload_n 1, 1) := by decide +kernel
theorem dX8_isNought_5 : decode cX8_isNought 5 = .ok (.laload, 1) := by decide +kernel
theorem dX8_isNought_6 : decode cX8_isNought 6 = .ok (.lconst 0, 1) := by decide +kernel
theorem dX8_isNought_7 : decode cX8_isNought 7 = .ok (.lcmp, 1) := by decide +kernel
theorem dX8_isNought_8 : decode cX8_isNought 8 = .ok (.ifCond .ne 18, 3) := by decide +kernel
theorem dX8_isNought_11 : decode cX8_isNought 11 = .ok (.aload_n 0, 1) := by decide +kernel
theorem dX8_isNought_12 : decode cX8_isNought 12 = .ok (.getfield 17, 3) := by decide +kernel
theorem dX8_isNought_15 : decode cX8_isNought 15 = .ok (.iload_n 1, 1) := by decide +kernel
theorem dX8_isNought_16 : decode cX8_isNought 16 = .ok (.laload, 1) := by decide +kernel
theorem dX8_isNought_17 : decode cX8_isNought 17 = .ok (.lconst 0, 1) := by decide +kernel
theorem dX8_isNought_18 : decode cX8_isNought 18 = .ok (.lcmp, 1) := by decide +kernel
theorem dX8_isNought_19 : decode cX8_isNought 19 = .ok (.ifCond .ne 7, 3) := by decide +kernel
theorem dX8_isNought_22 : decode cX8_isNought 22 = .ok (.iconst 1, 1) := by decide +kernel
theorem dX8_isNought_23 : decode cX8_isNought 23 = .ok (.goto 4, 3) := by decide +kernel
theorem dX8_isNought_26 : decode cX8_isNought 26 = .ok (.iconst 0, 1) := by decide +kernel
theorem dX8_isNought_27 : decode cX8_isNought 27 = .ok (.ireturn, 1) := by decide +kernel
theorem dX8_reckon_0 : decode cX8_reckon 0 = .ok (.iload_n 1, 1) := by decide +kernel
theorem dX8_reckon_1 : decode cX8_reckon 1 = .ok (.invokestatic 92, 3) := by decide +kernel
theorem dX8_reckon_4 : decode cX8_reckon 4 = .ok (.ifCond .eq 30, 3) := by decide +kernel
theorem dX8_reckon_7 : decode cX8_reckon 7 = .ok (.iload_n 2, 1) := by decide +kernel
theorem dX8_reckon_8 : decode cX8_reckon 8 = .ok (.i2l, 1) := by decide +kernel
theorem dX8_reckon_9 : decode cX8_reckon 9 = .ok (.lconst 0, 1) := by decide +kernel
theorem dX8_reckon_10 : decode cX8_reckon 10 = .ok (.ldc2_w 129, 3) := by decide +kernel
theorem dX8_reckon_13 : decode cX8_reckon 13 = .ok (.invokestatic 62, 3) := by decide +kernel
theorem dX8_reckon_16 : decode cX8_reckon 16 = .ok (.ifCond .eq 18, 3) := by decide +kernel
theorem dX8_reckon_19 : decode cX8_reckon 19 = .ok (.iload_n 3, 1) := by decide +kernel
theorem dX8_reckon_20 : decode cX8_reckon 20 = .ok (.invokestatic 92, 3) := by decide +kernel
theorem dX8_reckon_23 : decode cX8_reckon 23 = .ok (.ifCond .eq 11, 3) := by decide +kernel
theorem dX8_reckon_26 : decode cX8_reckon 26 = .ok (.iload 4, 2) := by decide +kernel
theorem dX8_reckon_28 : decode cX8_reckon 28 = .ok (.invokestatic 92, 3) := by decide +kernel
theorem dX8_reckon_31 : decode cX8_reckon 31 = .ok (.ifCond .ne 5, 3) := by decide +kernel
theorem dX8_reckon_34 : decode cX8_reckon 34 = .ok (.iconst (-1), 1) := by decide +kernel
theorem dX8_reckon_35 : decode cX8_reckon 35 = .ok (.ireturn, 1) := by decide +kernel
theorem dX8_reckon_36 : decode cX8_reckon 36 = .ok (.iload_n 2, 1) := by decide +kernel
theorem dX8_reckon_37 : decode cX8_reckon 37 = .ok (.iconst 3, 1) := by decide +kernel
theorem dX8_reckon_38 : decode cX8_reckon 38 = .ok (.if_icmp .eq 8, 3) := by decide +kernel
theorem dX8_reckon_41 : decode cX8_reckon 41 = .ok (.iload_n 2, 1) := by decide +kernel
theorem dX8_reckon_42 : decode cX8_reckon 42 = .ok (.iconst 4, 1) := by decide +kernel
theorem dX8_reckon_43 : decode cX8_reckon 43 = .ok (.if_icmp .ne 15, 3) := by decide +kernel
theorem dX8_reckon_46 : decode cX8_reckon 46 = .ok (.aload_n 0, 1) := by decide +kernel
theorem dX8_reckon_47 : decode cX8_reckon 47 = .ok (.iload 4, 2) := by decide +kernel
theorem dX8_reckon_49 : decode cX8_reckon 49 = .ok (.invokevirtual 131, 3) := by decide +kernel
theorem dX8_reckon_52 : decode cX8_reckon 52 = .ok (.ifCond .eq 6, 3) := by decide +kernel
theorem dX8_reckon_55 : decode cX8_reckon 55 = .ok (.bipush (-2), 2) := by decide +kernel
theorem dX8_reckon_57 : decode cX8_reckon 57 = .ok (.ireturn, 1) := by decide +kernel
theorem dX8_reckon_58 : decode cX8_reckon 58 = .ok (.iload_n 2, 1) := by decide +kernel
theorem dX8_reckon_59 : decode cX8_reckon 59 = .ok (.tableswitch 214 0 4 #[33, 68, 103, 136, 181], 33) := by decide +kernel
theorem dX8_reckon_92 : decode cX8_reckon 92 = .ok (.aload_n 0, 1) := by decide +kernel
theorem dX8_reckon_93 : decode cX8_reckon 93 = .ok (.aload_n 0, 1) := by decide +kernel
theorem dX8_reckon_94 : decode cX8_reckon 94 = .ok (.getfield 13, 3) := by decide +kernel
theorem dX8_reckon_97 : decode cX8_reckon 97 = .ok (.iload_n 3, 1) := by decide +kernel
theorem dX8_reckon_98 : decode cX8_reckon 98 = .ok (.laload, 1) := by decide +kernel
theorem dX8_reckon_99 : decode cX8_reckon 99 = .ok (.aload_n 0, 1) := by decide +kernel
theorem dX8_reckon_100 : decode cX8_reckon 100 = .ok (.getfield 13, 3) := by decide +kernel
theorem dX8_reckon_103 : decode cX8_reckon 103 = .ok (.iload 4, 2) := by decide +kernel
theorem dX8_reckon_105 : decode cX8_reckon 105 = .ok (.laload, 1) := by decide +kernel
theorem dX8_reckon_106 : decode cX8_reckon 106 = .ok (.ladd, 1) := by decide +kernel
theorem dX8_reckon_107 : decode cX8_reckon 107 = .ok (.aload_n 0, 1) := by decide +kernel
theorem dX8_reckon_108 : decode cX8_reckon 108 = .ok (.getfield 17, 3) := by decide +kernel
theorem dX8_reckon_111 : decode cX8_reckon 111 = .ok (.iload_n 3, 1) := by decide +kernel
theorem dX8_reckon_112 : decode cX8_reckon 112 = .ok (.laload, 1) := by decide +kernel
theorem dX8_reckon_113 : decode cX8_reckon 113 = .ok (.aload_n 0, 1) := by decide +kernel
theorem dX8_reckon_114 : decode cX8_reckon 114 = .ok (.getfield 17, 3) := by decide +kernel
theorem dX8_reckon_117 : decode cX8_reckon 117 = .ok (.iload 4, 2) := by decide +kernel
theorem dX8_reckon_119 : decode cX8_reckon 119 = .ok (.laload, 1) := by decide +kernel
theorem dX8_reckon_120 : decode cX8_reckon 120 = .ok (.ladd, 1) := by decide +kernel
theorem dX8_reckon_121 : decode cX8_reckon 121 = .ok (.invokevirtual 75, 3) := by decide +kernel
theorem dX8_reckon_124 : decode cX8_reckon 124 = .ok (.goto 179, 3) := by decide +kernel
theorem dX8_reckon_127 : decode cX8_reckon 127 = .ok (.aload_n 0, 1) := by decide +kernel
theorem dX8_reckon_128 : decode cX8_reckon 128 = .ok (.aload_n 0, 1) := by decide +kernel
theorem dX8_reckon_129 : decode cX8_reckon 129 = .ok (.getfield 13, 3) := by decide +kernel
theorem dX8_reckon_132 : decode cX8_reckon 132 = .ok (.iload_n 3, 1) := by decide +kernel
theorem dX8_reckon_133 : decode cX8_reckon 133 = .ok (.laload, 1) := by decide +kernel
theorem dX8_reckon_134 : decode cX8_reckon 134 = .ok (.aload_n 0, 1) := by decide +kernel
theorem dX8_reckon_135 : decode cX8_reckon 135 = .ok (.getfield 13, 3) := by decide +kernel
theorem dX8_reckon_138 : decode cX8_reckon 138 = .ok (.iload 4, 2) := by decide +kernel
theorem dX8_reckon_140 : decode cX8_reckon 140 = .ok (.laload, 1) := by decide +kernel
theorem dX8_reckon_141 : decode cX8_reckon 141 = .ok (.lsub, 1) := by decide +kernel
theorem dX8_reckon_142 : decode cX8_reckon 142 = .ok (.aload_n 0, 1) := by decide +kernel
theorem dX8_reckon_143 : decode cX8_reckon 143 = .ok (.getfield 17, 3) := by decide +kernel
theorem dX8_reckon_146 : decode cX8_reckon 146 = .ok (.iload_n 3, 1) := by decide +kernel
theorem dX8_reckon_147 : decode cX8_reckon 147 = .ok (.laload, 1) := by decide +kernel
theorem dX8_reckon_148 : decode cX8_reckon 148 = .ok (.aload_n 0, 1) := by decide +kernel
theorem dX8_reckon_149 : decode cX8_reckon 149 = .ok (.getfield 17, 3) := by decide +kernel
theorem dX8_reckon_152 : decode cX8_reckon 152 = .ok (.iload 4, 2) := by decide +kernel
theorem dX8_reckon_154 : decode cX8_reckon 154 = .ok (.laload, 1) := by decide +kernel
theorem dX8_reckon_155 : decode cX8_reckon 155 = .ok (.lsub, 1) := by decide +kernel
theorem dX8_reckon_156 : decode cX8_reckon 156 = .ok (.invokevirtual 75, 3) := by decide +kernel
theorem dX8_reckon_159 : decode cX8_reckon 159 = .ok (.goto 144, 3) := by decide +kernel
theorem dX8_reckon_162 : decode cX8_reckon 162 = .ok (.aload_n 0, 1) := by decide +kernel
theorem dX8_reckon_163 : decode cX8_reckon 163 = .ok (.aload_n 0, 1) := by decide +kernel
theorem dX8_reckon_164 : decode cX8_reckon 164 = .ok (.getfield 13, 3) := by decide +kernel
theorem dX8_reckon_167 : decode cX8_reckon 167 = .ok (.iload_n 3, 1) := by decide +kernel
theorem dX8_reckon_168 : decode cX8_reckon 168 = .ok (.laload, 1) := by decide +kernel
theorem dX8_reckon_169 : decode cX8_reckon 169 = .ok (.aload_n 0, 1) := by decide +kernel
theorem dX8_reckon_170 : decode cX8_reckon 170 = .ok (.getfield 17, 3) := by decide +kernel
theorem dX8_reckon_173 : decode cX8_reckon 173 = .ok (.iload_n 3, 1) := by decide +kernel
theorem dX8_reckon_174 : decode cX8_reckon 174 = .ok (.laload, 1) := by decide +kernel
theorem dX8_reckon_175 : decode cX8_reckon 175 = .ok (.aload_n 0, 1) := by decide +kernel
theorem dX8_reckon_176 : decode cX8_reckon 176 = .ok (.getfield 13, 3) := by decide +kernel
theorem dX8_reckon_179 : decode cX8_reckon 179 = .ok (.iload 4, 2) := by decide +kernel
theorem dX8_reckon_181 : decode cX8_reckon 181 = .ok (.laload, 1) := by decide +kernel
theorem dX8_reckon_182 : decode cX8_reckon 182 = .ok (.aload_n 0, 1) := by decide +kernel
theorem dX8_reckon_183 : decode cX8_reckon 183 = .ok (.getfield 17, 3) := by decide +kernel
theorem dX8_reckon_186 : decode cX8_reckon 186 = .ok (.iload 4, 2) := by decide +kernel
theorem dX8_reckon_188 : decode cX8_reckon 188 = .ok (.laload, 1) := by decide +kernel
theorem dX8_reckon_189 : decode cX8_reckon 189 = .ok (.invokevirtual 108, 3) := by decide +kernel
theorem dX8_reckon_192 : decode cX8_reckon 192 = .ok (.goto 111, 3) := by decide +kernel
theorem dX8_reckon_195 : decode cX8_reckon 195 = .ok (.aload_n 0, 1) := by decide +kernel
theorem dX8_reckon_196 : decode cX8_reckon 196 = .ok (.aload_n 0, 1) := by decide +kernel
theorem dX8_reckon_197 : decode cX8_reckon 197 = .ok (.getfield 13, 3) := by decide +kernel
theorem dX8_reckon_200 : decode cX8_reckon 200 = .ok (.iload_n 3, 1) := by decide +kernel
theorem dX8_reckon_201 : decode cX8_reckon 201 = .ok (.laload, 1) := by decide +kernel
theorem dX8_reckon_202 : decode cX8_reckon 202 = .ok (.aload_n 0, 1) := by decide +kernel
theorem dX8_reckon_203 : decode cX8_reckon 203 = .ok (.getfield 17, 3) := by decide +kernel
theorem dX8_reckon_206 : decode cX8_reckon 206 = .ok (.iload_n 3, 1) := by decide +kernel
theorem dX8_reckon_207 : decode cX8_reckon 207 = .ok (.laload, 1) := by decide +kernel
theorem dX8_reckon_208 : decode cX8_reckon 208 = .ok (.aload_n 0, 1) := by decide +kernel
theorem dX8_reckon_209 : decode cX8_reckon 209 = .ok (.getfield 13, 3) := by decide +kernel
theorem dX8_reckon_212 : decode cX8_reckon 212 = .ok (.iload 4, 2) := by decide +kernel
theorem dX8_reckon_214 : decode cX8_reckon 214 = .ok (.laload, 1) := by decide +kernel
theorem dX8_reckon_215 : decode cX8_reckon 215 = .ok (.aload_n 0, 1) := by decide +kernel
theorem dX8_reckon_216 : decode cX8_reckon 216 = .ok (.getfield 17, 3) := by decide +kernel
theorem dX8_reckon_219 : decode cX8_reckon 219 = .ok (.iload 4, 2) := by decide +kernel
theorem dX8_reckon_221 : decode cX8_reckon 221 = .ok (.laload, 1) := by decide +kernel
theorem dX8_reckon_222 : decode cX8_reckon 222 = .ok (.invokevirtual 123, 3) := by decide +kernel
theorem dX8_reckon_225 : decode cX8_reckon 225 = .ok (.aload_n 0, 1) := by decide +kernel
theorem dX8_reckon_226 : decode cX8_reckon 226 = .ok (.aload_n 0, 1) := by decide +kernel
theorem dX8_reckon_227 : decode cX8_reckon 227 = .ok (.getfield 114, 3) := by decide +kernel
theorem dX8_reckon_230 : decode cX8_reckon 230 = .ok (.aload_n 0, 1) := by decide +kernel
theorem dX8_reckon_231 : decode cX8_reckon 231 = .ok (.getfield 117, 3) := by decide +kernel
theorem dX8_reckon_234 : decode cX8_reckon 234 = .ok (.invokevirtual 75, 3) := by decide +kernel
theorem dX8_reckon_237 : decode cX8_reckon 237 = .ok (.goto 66, 3) := by decide +kernel
theorem dX8_reckon_240 : decode cX8_reckon 240 = .ok (.aload_n 0, 1) := by decide +kernel
theorem dX8_reckon_241 : decode cX8_reckon 241 = .ok (.aload_n 0, 1) := by decide +kernel
theorem dX8_reckon_242 : decode cX8_reckon 242 = .ok (.getfield 13, 3) := by decide +kernel
theorem dX8_reckon_245 : decode cX8_reckon 245 = .ok (.iload_n 3, 1) := by decide +kernel
theorem dX8_reckon_246 : decode cX8_reckon 246 = .ok (.laload, 1) := by decide +kernel
theorem dX8_reckon_247 : decode cX8_reckon 247 = .ok (.aload_n 0, 1) := by decide +kernel
theorem dX8_reckon_248 : decode cX8_reckon 248 = .ok (.getfield 17, 3) := by decide +kernel
theorem dX8_reckon_251 : decode cX8_reckon 251 = .ok (.iload_n 3, 1) := by decide +kernel
theorem dX8_reckon_252 : decode cX8_reckon 252 = .ok (.laload, 1) := by decide +kernel
theorem dX8_reckon_253 : decode cX8_reckon 253 = .ok (.aload_n 0, 1) := by decide +kernel
theorem dX8_reckon_254 : decode cX8_reckon 254 = .ok (.getfield 13, 3) := by decide +kernel
theorem dX8_reckon_257 : decode cX8_reckon 257 = .ok (.iload 4, 2) := by decide +kernel
theorem dX8_reckon_259 : decode cX8_reckon 259 = .ok (.laload, 1) := by decide +kernel
theorem dX8_reckon_260 : decode cX8_reckon 260 = .ok (.aload_n 0, 1) := by decide +kernel
theorem dX8_reckon_261 : decode cX8_reckon 261 = .ok (.getfield 17, 3) := by decide +kernel
theorem dX8_reckon_264 : decode cX8_reckon 264 = .ok (.iload 4, 2) := by decide +kernel
theorem dX8_reckon_266 : decode cX8_reckon 266 = .ok (.laload, 1) := by decide +kernel
theorem dX8_reckon_267 : decode cX8_reckon 267 = .ok (.invokevirtual 123, 3) := by decide +kernel
theorem dX8_reckon_270 : decode cX8_reckon 270 = .ok (.goto 33, 3) := by decide +kernel
theorem dX8_reckon_273 : decode cX8_reckon 273 = .ok (.aload_n 0, 1) := by decide +kernel
theorem dX8_reckon_274 : decode cX8_reckon 274 = .ok (.aload_n 0, 1) := by decide +kernel
theorem dX8_reckon_275 : decode cX8_reckon 275 = .ok (.getfield 13, 3) := by decide +kernel
theorem dX8_reckon_278 : decode cX8_reckon 278 = .ok (.iload_n 3, 1) := by decide +kernel
theorem dX8_reckon_279 : decode cX8_reckon 279 = .ok (.laload, 1) := by decide +kernel
theorem dX8_reckon_280 : decode cX8_reckon 280 = .ok (.aload_n 0, 1) := by decide +kernel
theorem dX8_reckon_281 : decode cX8_reckon 281 = .ok (.getfield 17, 3) := by decide +kernel
theorem dX8_reckon_284 : decode cX8_reckon 284 = .ok (.iload_n 3, 1) := by decide +kernel
theorem dX8_reckon_285 : decode cX8_reckon 285 = .ok (.laload, 1) := by decide +kernel
theorem dX8_reckon_286 : decode cX8_reckon 286 = .ok (.aload_n 0, 1) := by decide +kernel
theorem dX8_reckon_287 : decode cX8_reckon 287 = .ok (.getfield 13, 3) := by decide +kernel
theorem dX8_reckon_290 : decode cX8_reckon 290 = .ok (.iload 4, 2) := by decide +kernel
theorem dX8_reckon_292 : decode cX8_reckon 292 = .ok (.laload, 1) := by decide +kernel
theorem dX8_reckon_293 : decode cX8_reckon 293 = .ok (.aload_n 0, 1) := by decide +kernel
theorem dX8_reckon_294 : decode cX8_reckon 294 = .ok (.getfield 17, 3) := by decide +kernel
theorem dX8_reckon_297 : decode cX8_reckon 297 = .ok (.iload 4, 2) := by decide +kernel
theorem dX8_reckon_299 : decode cX8_reckon 299 = .ok (.laload, 1) := by decide +kernel
theorem dX8_reckon_300 : decode cX8_reckon 300 = .ok (.invokevirtual 134, 3) := by decide +kernel
theorem dX8_reckon_303 : decode cX8_reckon 303 = .ok (.aload_n 0, 1) := by decide +kernel
theorem dX8_reckon_304 : decode cX8_reckon 304 = .ok (.iload_n 1, 1) := by decide +kernel
theorem dX8_reckon_305 : decode cX8_reckon 305 = .ok (.invokevirtual 137, 3) := by decide +kernel
theorem dX8_reckon_308 : decode cX8_reckon 308 = .ok (.ireturn, 1) := by decide +kernel
theorem dX8_turn_0 : decode cX8_turn 0 = .ok (.iload_n 1, 1) := by decide +kernel
theorem dX8_turn_1 : decode cX8_turn 1 = .ok (.invokestatic 92, 3) := by decide +kernel
theorem dX8_turn_4 : decode cX8_turn 4 = .ok (.ifCond .eq 22, 3) := by decide +kernel
theorem dX8_turn_7 : decode cX8_turn 7 = .ok (.iload_n 2, 1) := by decide +kernel
theorem dX8_turn_8 : decode cX8_turn 8 = .ok (.i2l, 1) := by decide +kernel
theorem dX8_turn_9 : decode cX8_turn 9 = .ok (.lconst 0, 1) := by decide +kernel
theorem dX8_turn_10 : decode cX8_turn 10 = .ok (.ldc2_w 85, 3) := by decide +kernel
theorem dX8_turn_13 : decode cX8_turn 13 = .ok (.invokestatic 62, 3) := by decide +kernel
theorem dX8_turn_16 : decode cX8_turn 16 = .ok (.ifCond .eq 10, 3) := by decide +kernel
theorem dX8_turn_19 : decode cX8_turn 19 = .ok (.iload_n 3, 1) := by decide +kernel
theorem dX8_turn_20 : decode cX8_turn 20 = .ok (.invokestatic 92, 3) := by decide +kernel
theorem dX8_turn_23 : decode cX8_turn 23 = .ok (.ifCond .ne 5, 3) := by decide +kernel
theorem dX8_turn_26 : decode cX8_turn 26 = .ok (.iconst (-1), 1) := by decide +kernel
theorem dX8_turn_27 : decode cX8_turn 27 = .ok (.ireturn, 1) := by decide +kernel
theorem dX8_turn_28 : decode cX8_turn 28 = .ok (.iload_n 2, 1) := by decide +kernel
theorem dX8_turn_29 : decode cX8_turn 29 = .ok (.ifCond .ne 35, 3) := by decide +kernel
theorem dX8_turn_32 : decode cX8_turn 32 = .ok (.aload_n 0, 1) := by decide +kernel
theorem dX8_turn_33 : decode cX8_turn 33 = .ok (.aload_n 0, 1) := by decide +kernel
theorem dX8_turn_34 : decode cX8_turn 34 = .ok (.getfield 13, 3) := by decide +kernel
theorem dX8_turn_37 : decode cX8_turn 37 = .ok (.iload_n 3, 1) := by decide +kernel
theorem dX8_turn_38 : decode cX8_turn 38 = .ok (.laload, 1) := by decide +kernel
theorem dX8_turn_39 : decode cX8_turn 39 = .ok (.aload_n 0, 1) := by decide +kernel
theorem dX8_turn_40 : decode cX8_turn 40 = .ok (.getfield 66, 3) := by decide +kernel
theorem dX8_turn_43 : decode cX8_turn 43 = .ok (.aload_n 0, 1) := by decide +kernel
theorem dX8_turn_44 : decode cX8_turn 44 = .ok (.getfield 17, 3) := by decide +kernel
theorem dX8_turn_47 : decode cX8_turn 47 = .ok (.iload_n 3, 1) := by decide +kernel
theorem dX8_turn_48 : decode cX8_turn 48 = .ok (.laload, 1) := by decide +kernel
theorem dX8_turn_49 : decode cX8_turn 49 = .ok (.lmul, 1) := by decide +kernel
theorem dX8_turn_50 : decode cX8_turn 50 = .ok (.ladd, 1) := by decide +kernel
theorem dX8_turn_51 : decode cX8_turn 51 = .ok (.aload_n 0, 1) := by decide +kernel
theorem dX8_turn_52 : decode cX8_turn 52 = .ok (.getfield 17, 3) := by decide +kernel
theorem dX8_turn_55 : decode cX8_turn 55 = .ok (.iload_n 3, 1) := by decide +kernel
theorem dX8_turn_56 : decode cX8_turn 56 = .ok (.laload, 1) := by decide +kernel
theorem dX8_turn_57 : decode cX8_turn 57 = .ok (.lneg, 1) := by decide +kernel
theorem dX8_turn_58 : decode cX8_turn 58 = .ok (.invokevirtual 75, 3) := by decide +kernel
theorem dX8_turn_61 : decode cX8_turn 61 = .ok (.goto 45, 3) := by decide +kernel
theorem dX8_turn_64 : decode cX8_turn 64 = .ok (.iload_n 2, 1) := by decide +kernel
theorem dX8_turn_65 : decode cX8_turn 65 = .ok (.iconst 1, 1) := by decide +kernel
theorem dX8_turn_66 : decode cX8_turn 66 = .ok (.if_icmp .ne 22, 3) := by decide +kernel
theorem dX8_turn_69 : decode cX8_turn 69 = .ok (.aload_n 0, 1) := by decide +kernel
theorem dX8_turn_70 : decode cX8_turn 70 = .ok (.aload_n 0, 1) := by decide +kernel
theorem dX8_turn_71 : decode cX8_turn 71 = .ok (.getfield 13, 3) := by decide +kernel
theorem dX8_turn_74 : decode cX8_turn 74 = .ok (.iload_n 3, 1) := by decide +kernel
theorem dX8_turn_75 : decode cX8_turn 75 = .ok (.laload, 1) := by decide +kernel
theorem dX8_turn_76 : decode cX8_turn 76 = .ok (.aload_n 0, 1) := by decide +kernel
theorem dX8_turn_77 : decode cX8_turn 77 = .ok (.getfield 17, 3) := by decide +kernel
theorem dX8_turn_80 : decode cX8_turn 80 = .ok (.iload_n 3, 1) := by decide +kernel
theorem dX8_turn_81 : decode cX8_turn 81 = .ok (.laload, 1) := by decide +kernel
theorem dX8_turn_82 : decode cX8_turn 82 = .ok (.invokevirtual 126, 3) := by decide +kernel
theorem dX8_turn_85 : decode cX8_turn 85 = .ok (.goto 21, 3) := by decide +kernel
theorem dX8_turn_88 : decode cX8_turn 88 = .ok (.aload_n 0, 1) := by decide +kernel
theorem dX8_turn_89 : decode cX8_turn 89 = .ok (.aload_n 0, 1) := by decide +kernel
theorem dX8_turn_90 : decode cX8_turn 90 = .ok (.getfield 13, 3) := by decide +kernel
theorem dX8_turn_93 : decode cX8_turn 93 = .ok (.iload_n 3, 1) := by decide +kernel
theorem dX8_turn_94 : decode cX8_turn 94 = .ok (.laload, 1) := by decide +kernel
theorem dX8_turn_95 : decode cX8_turn 95 = .ok (.aload_n 0, 1) := by decide +kernel
theorem dX8_turn_96 : decode cX8_turn 96 = .ok (.getfield 17, 3) := by decide +kernel
theorem dX8_turn_99 : decode cX8_turn 99 = .ok (.iload_n 3, 1) := by decide +kernel
theorem dX8_turn_100 : decode cX8_turn 100 = .ok (.laload, 1) := by decide +kernel
theorem dX8_turn_101 : decode cX8_turn 101 = .ok (.lconst 0, 1) := by decide +kernel
theorem dX8_turn_102 : decode cX8_turn 102 = .ok (.lconst 1, 1) := by decide +kernel
theorem dX8_turn_103 : decode cX8_turn 103 = .ok (.invokevirtual 108, 3) := by decide +kernel
theorem dX8_turn_106 : decode cX8_turn 106 = .ok (.aload_n 0, 1) := by decide +kernel
theorem dX8_turn_107 : decode cX8_turn 107 = .ok (.iload_n 1, 1) := by decide +kernel
theorem dX8_turn_108 : decode cX8_turn 108 = .ok (.invokevirtual 137, 3) := by decide +kernel
theorem dX8_turn_111 : decode cX8_turn 111 = .ok (.ireturn, 1) := by decide +kernel
theorem dX8_make_0 : decode cX8_make 0 = .ok (.lload_n 1, 1) := by decide +kernel
theorem dX8_make_1 : decode cX8_make 1 = .ok (.lstore 9, 2) := by decide +kernel
theorem dX8_make_3 : decode cX8_make 3 = .ok (.lload_n 3, 1) := by decide +kernel
theorem dX8_make_4 : decode cX8_make 4 = .ok (.lstore 11, 2) := by decide +kernel
theorem dX8_make_6 : decode cX8_make 6 = .ok (.lload 5, 2) := by decide +kernel
theorem dX8_make_8 : decode cX8_make 8 = .ok (.lstore 13, 2) := by decide +kernel
theorem dX8_make_10 : decode cX8_make 10 = .ok (.lload 7, 2) := by decide +kernel
theorem dX8_make_12 : decode cX8_make 12 = .ok (.lstore 15, 2) := by decide +kernel
theorem dX8_make_14 : decode cX8_make 14 = .ok (.aload_n 0, 1) := by decide +kernel
theorem dX8_make_15 : decode cX8_make 15 = .ok (.lconst 1, 1) := by decide +kernel
theorem dX8_make_16 : decode cX8_make 16 = .ok (.putfield 141, 3) := by decide +kernel
theorem dX8_make_19 : decode cX8_make 19 = .ok (.aload_n 0, 1) := by decide +kernel
theorem dX8_make_20 : decode cX8_make 20 = .ok (.lconst 0, 1) := by decide +kernel
theorem dX8_make_21 : decode cX8_make 21 = .ok (.putfield 144, 3) := by decide +kernel
theorem dX8_make_24 : decode cX8_make 24 = .ok (.aload_n 0, 1) := by decide +kernel
theorem dX8_make_25 : decode cX8_make 25 = .ok (.lconst 0, 1) := by decide +kernel
theorem dX8_make_26 : decode cX8_make 26 = .ok (.putfield 147, 3) := by decide +kernel
theorem dX8_make_29 : decode cX8_make 29 = .ok (.aload_n 0, 1) := by decide +kernel
theorem dX8_make_30 : decode cX8_make 30 = .ok (.lconst 0, 1) := by decide +kernel
theorem dX8_make_31 : decode cX8_make 31 = .ok (.putfield 150, 3) := by decide +kernel
theorem dX8_make_34 : decode cX8_make 34 = .ok (.lconst 0, 1) := by decide +kernel
theorem dX8_make_35 : decode cX8_make 35 = .ok (.lstore 17, 2) := by decide +kernel
theorem dX8_make_37 : decode cX8_make 37 = .ok (.lconst 0, 1) := by decide +kernel
theorem dX8_make_38 : decode cX8_make 38 = .ok (.lstore 19, 2) := by decide +kernel
theorem dX8_make_40 : decode cX8_make 40 = .ok (.lconst 1, 1) := by decide +kernel
theorem dX8_make_41 : decode cX8_make 41 = .ok (.lstore 21, 2) := by decide +kernel
theorem dX8_make_43 : decode cX8_make 43 = .ok (.lconst 0, 1) := by decide +kernel
theorem dX8_make_44 : decode cX8_make 44 = .ok (.lstore 23, 2) := by decide +kernel
theorem dX8_make_46 : decode cX8_make 46 = .ok (.lload 13, 2) := by decide +kernel
theorem dX8_make_48 : decode cX8_make 48 = .ok (.lconst 0, 1) := by decide +kernel
theorem dX8_make_49 : decode cX8_make 49 = .ok (.lcmp, 1) := by decide +kernel
theorem dX8_make_50 : decode cX8_make 50 = .ok (.ifCond .ne 10, 3) := by decide +kernel
theorem dX8_make_53 : decode cX8_make 53 = .ok (.lload 15, 2) := by decide +kernel
theorem dX8_make_55 : decode cX8_make 55 = .ok (.lconst 0, 1) := by decide +kernel
theorem dX8_make_56 : decode cX8_make 56 = .ok (.lcmp, 1) := by decide +kernel
theorem dX8_make_57 : decode cX8_make 57 = .ok (.ifCond .eq 158, 3) := by decide +kernel
theorem dX8_make_60 : decode cX8_make 60 = .ok (.aload_n 0, 1) := by decide +kernel
theorem dX8_make_61 : decode cX8_make 61 = .ok (.lload 9, 2) := by decide +kernel
theorem dX8_make_63 : decode cX8_make 63 = .ok (.lload 11, 2) := by decide +kernel
theorem dX8_make_65 : decode cX8_make 65 = .ok (.lload 13, 2) := by decide +kernel
theorem dX8_make_67 : decode cX8_make 67 = .ok (.lload 15, 2) := by decide +kernel
theorem dX8_make_69 : decode cX8_make 69 = .ok (.invokevirtual 123, 3) := by decide +kernel
theorem dX8_make_72 : decode cX8_make 72 = .ok (.aload_n 0, 1) := by decide +kernel
theorem dX8_make_73 : decode cX8_make 73 = .ok (.getfield 114, 3) := by decide +kernel
theorem dX8_make_76 : decode cX8_make 76 = .ok (.lstore 25, 2) := by decide +kernel
theorem dX8_make_78 : decode cX8_make 78 = .ok (.aload_n 0, 1) := by decide +kernel
theorem dX8_make_79 : decode cX8_make 79 = .ok (.getfield 117, 3) := by decide +kernel
theorem dX8_make_82 : decode cX8_make 82 = .ok (.lstore 27, 2) := by decide +kernel
theorem dX8_make_84 : decode cX8_make 84 = .ok (.lload 13, 2) := by decide +kernel
theorem dX8_make_86 : decode cX8_make 86 = .ok (.lstore 9, 2) := by decide +kernel
theorem dX8_make_88 : decode cX8_make 88 = .ok (.lload 15, 2) := by decide +kernel
theorem dX8_make_90 : decode cX8_make 90 = .ok (.lstore 11, 2) := by decide +kernel
theorem dX8_make_92 : decode cX8_make 92 = .ok (.aload_n 0, 1) := by decide +kernel
theorem dX8_make_93 : decode cX8_make 93 = .ok (.getfield 69, 3) := by decide +kernel
theorem dX8_make_96 : decode cX8_make 96 = .ok (.lstore 13, 2) := by decide +kernel
theorem dX8_make_98 : decode cX8_make 98 = .ok (.aload_n 0, 1) := by decide +kernel
theorem dX8_make_99 : decode cX8_make 99 = .ok (.getfield 72, 3) := by decide +kernel
theorem dX8_make_102 : decode cX8_make 102 = .ok (.lstore 15, 2) := by decide +kernel
theorem dX8_make_104 : decode cX8_make 104 = .ok (.aload_n 0, 1) := by decide +kernel
theorem dX8_make_105 : decode cX8_make 105 = .ok (.lload 25, 2) := by decide +kernel
theorem dX8_make_107 : decode cX8_make 107 = .ok (.lload 27, 2) := by decide +kernel
theorem dX8_make_109 : decode cX8_make 109 = .ok (.lload 17, 2) := by decide +kernel
theorem dX8_make_111 : decode cX8_make 111 = .ok (.lload 19, 2) := by decide +kernel
theorem dX8_make_113 : decode cX8_make 113 = .ok (.invokevirtual 108, 3) := by decide +kernel
theorem dX8_make_116 : decode cX8_make 116 = .ok (.aload_n 0, 1) := by decide +kernel
theorem dX8_make_117 : decode cX8_make 117 = .ok (.getfield 141, 3) := by decide +kernel
theorem dX8_make_120 : decode cX8_make 120 = .ok (.aload_n 0, 1) := by decide +kernel
theorem dX8_make_121 : decode cX8_make 121 = .ok (.getfield 69, 3) := by decide +kernel
theorem dX8_make_124 : decode cX8_make 124 = .ok (.lsub, 1) := by decide +kernel
theorem dX8_make_125 : decode cX8_make 125 = .ok (.lstore 29, 2) := by decide +kernel
theorem dX8_make_127 : decode cX8_make 127 = .ok (.aload_n 0, 1) := by decide +kernel
theorem dX8_make_128 : decode cX8_make 128 = .ok (.getfield 144, 3) := by decide +kernel
theorem dX8_make_131 : decode cX8_make 131 = .ok (.aload_n 0, 1) := by decide +kernel
theorem dX8_make_132 : decode cX8_make 132 = .ok (.getfield 72, 3) := by decide +kernel
theorem dX8_make_135 : decode cX8_make 135 = .ok (.lsub, 1) := by decide +kernel
theorem dX8_make_136 : decode cX8_make 136 = .ok (.lstore 31, 2) := by decide +kernel
theorem dX8_make_138 : decode cX8_make 138 = .ok (.aload_n 0, 1) := by decide +kernel
theorem dX8_make_139 : decode cX8_make 139 = .ok (.lload 25, 2) := by decide +kernel
theorem dX8_make_141 : decode cX8_make 141 = .ok (.lload 27, 2) := by decide +kernel
theorem dX8_make_143 : decode cX8_make 143 = .ok (.lload 21, 2) := by decide +kernel
theorem dX8_make_145 : decode cX8_make 145 = .ok (.lload 23, 2) := by decide +kernel
theorem dX8_make_147 : decode cX8_make 147 = .ok (.invokevirtual 108, 3) := by decide +kernel
theorem dX8_make_150 : decode cX8_make 150 = .ok (.aload_n 0, 1) := by decide +kernel
theorem dX8_make_151 : decode cX8_make 151 = .ok (.getfield 147, 3) := by decide +kernel
theorem dX8_make_154 : decode cX8_make 154 = .ok (.aload_n 0, 1) := by decide +kernel
theorem dX8_make_155 : decode cX8_make 155 = .ok (.getfield 69, 3) := by decide +kernel
theorem dX8_make_158 : decode cX8_make 158 = .ok (.lsub, 1) := by decide +kernel
theorem dX8_make_159 : decode cX8_make 159 = .ok (.lstore 33, 2) := by decide +kernel
theorem dX8_make_161 : decode cX8_make 161 = .ok (.aload_n 0, 1) := by decide +kernel
theorem dX8_make_162 : decode cX8_make 162 = .ok (.getfield 150, 3) := by decide +kernel
theorem dX8_make_165 : decode cX8_make 165 = .ok (.aload_n 0, 1) := by decide +kernel
theorem dX8_make_166 : decode cX8_make 166 = .ok (.getfield 72, 3) := by decide +kernel
theorem dX8_make_169 : decode cX8_make 169 = .ok (.lsub, 1) := by decide +kernel
theorem dX8_make_170 : decode cX8_make 170 = .ok (.lstore 35, 2) := by decide +kernel
theorem dX8_make_172 : decode cX8_make 172 = .ok (.aload_n 0, 1) := by decide +kernel
theorem dX8_make_173 : decode cX8_make 173 = .ok (.lload 17, 2) := by decide +kernel
theorem dX8_make_175 : decode cX8_make 175 = .ok (.putfield 141, 3) := by decide +kernel
theorem dX8_make_178 : decode cX8_make 178 = .ok (.aload_n 0, 1) := by decide +kernel
theorem dX8_make_179 : decode cX8_make 179 = .ok (.lload 19, 2) := by decide +kernel
theorem dX8_make_181 : decode cX8_make 181 = .ok (.putfield 144, 3) := by decide +kernel
theorem dX8_make_184 : decode cX8_make 184 = .ok (.aload_n 0, 1) := by decide +kernel
theorem dX8_make_185 : decode cX8_make 185 = .ok (.lload 21, 2) := by decide +kernel
theorem dX8_make_187 : decode cX8_make 187 = .ok (.putfield 147, 3) := by decide +kernel
theorem dX8_make_190 : decode cX8_make 190 = .ok (.aload_n 0, 1) := by decide +kernel
theorem dX8_make_191 : decode cX8_make 191 = .ok (.lload 23, 2) := by decide +kernel
theorem dX8_make_193 : decode cX8_make 193 = .ok (.putfield 150, 3) := by decide +kernel
theorem dX8_make_196 : decode cX8_make 196 = .ok (.lload 29, 2) := by decide +kernel
theorem dX8_make_198 : decode cX8_make 198 = .ok (.lstore 17, 2) := by decide +kernel
theorem dX8_make_200 : decode cX8_make 200 = .ok (.lload 31, 2) := by decide +kernel
theorem dX8_make_202 : decode cX8_make 202 = .ok (.lstore 19, 2) := by decide +kernel
theorem dX8_make_204 : decode cX8_make 204 = .ok (.lload 33, 2) := by decide +kernel
theorem dX8_make_206 : decode cX8_make 206 = .ok (.lstore 21, 2) := by decide +kernel
theorem dX8_make_208 : decode cX8_make 208 = .ok (.lload 35, 2) := by decide +kernel
theorem dX8_make_210 : decode cX8_make 210 = .ok (.lstore 23, 2) := by decide +kernel
theorem dX8_make_212 : decode cX8_make 212 = .ok (.goto (-166), 3) := by decide +kernel
theorem dX8_make_215 : decode cX8_make 215 = .ok (.aload_n 0, 1) := by decide +kernel
theorem dX8_make_216 : decode cX8_make 216 = .ok (.lload 9, 2) := by decide +kernel
theorem dX8_make_218 : decode cX8_make 218 = .ok (.putfield 153, 3) := by decide +kernel
theorem dX8_make_221 : decode cX8_make 221 = .ok (.aload_n 0, 1) := by decide +kernel
theorem dX8_make_222 : decode cX8_make 222 = .ok (.lload 11, 2) := by decide +kernel
theorem dX8_make_224 : decode cX8_make 224 = .ok (.putfield 156, 3) := by decide +kernel
theorem dX8_make_227 : decode cX8_make 227 = .ok (.return_, 1) := by decide +kernel
theorem dX8_makes_0 : decode cX8_makes 0 = .ok (.iload_n 1, 1) := by decide +kernel
theorem dX8_makes_1 : decode cX8_makes 1 = .ok (.invokestatic 92, 3) := by decide +kernel
theorem dX8_makes_4 : decode cX8_makes 4 = .ok (.ifCond .eq 25, 3) := by decide +kernel
theorem dX8_makes_7 : decode cX8_makes 7 = .ok (.iload_n 2, 1) := by decide +kernel
theorem dX8_makes_8 : decode cX8_makes 8 = .ok (.invokestatic 92, 3) := by decide +kernel
theorem dX8_makes_11 : decode cX8_makes 11 = .ok (.ifCond .eq 18, 3) := by decide +kernel
theorem dX8_makes_14 : decode cX8_makes 14 = .ok (.iload_n 3, 1) := by decide +kernel
theorem dX8_makes_15 : decode cX8_makes 15 = .ok (.invokestatic 92, 3) := by decide +kernel
theorem dX8_makes_18 : decode cX8_makes 18 = .ok (.ifCond .eq 11, 3) := by decide +kernel
theorem dX8_makes_21 : decode cX8_makes 21 = .ok (.iload 4, 2) := by decide +kernel
theorem dX8_makes_23 : decode cX8_makes 23 = .ok (.invokestatic 92, 3) := by decide +kernel
theorem dX8_makes_26 : decode cX8_makes 26 = .ok (.ifCond .ne 5, 3) := by decide +kernel
theorem dX8_makes_29 : decode cX8_makes 29 = .ok (.iconst (-1), 1) := by decide +kernel
theorem dX8_makes_30 : decode cX8_makes 30 = .ok (.ireturn, 1) := by decide +kernel
theorem dX8_makes_31 : decode cX8_makes 31 = .ok (.aload_n 0, 1) := by decide +kernel
theorem dX8_makes_32 : decode cX8_makes 32 = .ok (.iload_n 3, 1) := by decide +kernel
theorem dX8_makes_33 : decode cX8_makes 33 = .ok (.invokevirtual 131, 3) := by decide +kernel
theorem dX8_makes_36 : decode cX8_makes 36 = .ok (.ifCond .eq 15, 3) := by decide +kernel
theorem dX8_makes_39 : decode cX8_makes 39 = .ok (.aload_n 0, 1) := by decide +kernel
theorem dX8_makes_40 : decode cX8_makes 40 = .ok (.iload 4, 2) := by decide +kernel
theorem dX8_makes_42 : decode cX8_makes 42 = .ok (.invokevirtual 131, 3) := by decide +kernel
theorem dX8_makes_45 : decode cX8_makes 45 = .ok (.ifCond .eq 6, 3) := by decide +kernel
theorem dX8_makes_48 : decode cX8_makes 48 = .ok (.bipush (-2), 2) := by decide +kernel
theorem dX8_makes_50 : decode cX8_makes 50 = .ok (.ireturn, 1) := by decide +kernel
theorem dX8_makes_51 : decode cX8_makes 51 = .ok (.aload_n 0, 1) := by decide +kernel
theorem dX8_makes_52 : decode cX8_makes 52 = .ok (.aload_n 0, 1) := by decide +kernel
theorem dX8_makes_53 : decode cX8_makes 53 = .ok (.getfield 13, 3) := by decide +kernel
theorem dX8_makes_56 : decode cX8_makes 56 = .ok (.iload_n 3, 1) := by decide +kernel
theorem dX8_makes_57 : decode cX8_makes 57 = .ok (.laload, 1) := by decide +kernel
theorem dX8_makes_58 : decode cX8_makes 58 = .ok (.aload_n 0, 1) := by decide +kernel
theorem dX8_makes_59 : decode cX8_makes 59 = .ok (.getfield 17, 3) := by decide +kernel
theorem dX8_makes_62 : decode cX8_makes 62 = .ok (.iload_n 3, 1) := by decide +kernel
theorem dX8_makes_63 : decode cX8_makes 63 = .ok (.laload, 1) := by decide +kernel
theorem dX8_makes_64 : decode cX8_makes 64 = .ok (.aload_n 0, 1) := by decide +kernel
theorem dX8_makes_65 : decode cX8_makes 65 = .ok (.getfield 13, 3) := by decide +kernel
theorem dX8_makes_68 : decode cX8_makes 68 = .ok (.iload 4, 2) := by decide +kernel
theorem dX8_makes_70 : decode cX8_makes 70 = .ok (.laload, 1) := by decide +kernel
theorem dX8_makes_71 : decode cX8_makes 71 = .ok (.aload_n 0, 1) := by decide +kernel
theorem dX8_makes_72 : decode cX8_makes 72 = .ok (.getfield 17, 3) := by decide +kernel
theorem dX8_makes_75 : decode cX8_makes 75 = .ok (.iload 4, 2) := by decide +kernel
theorem dX8_makes_77 : decode cX8_makes 77 = .ok (.laload, 1) := by decide +kernel
theorem dX8_makes_78 : decode cX8_makes 78 = .ok (.invokevirtual 159, 3) := by decide +kernel
theorem dX8_makes_81 : decode cX8_makes 81 = .ok (.aload_n 0, 1) := by decide +kernel
theorem dX8_makes_82 : decode cX8_makes 82 = .ok (.aload_n 0, 1) := by decide +kernel
theorem dX8_makes_83 : decode cX8_makes 83 = .ok (.getfield 153, 3) := by decide +kernel
theorem dX8_makes_86 : decode cX8_makes 86 = .ok (.aload_n 0, 1) := by decide +kernel
theorem dX8_makes_87 : decode cX8_makes 87 = .ok (.getfield 156, 3) := by decide +kernel
theorem dX8_makes_90 : decode cX8_makes 90 = .ok (.invokevirtual 126, 3) := by decide +kernel
theorem dX8_makes_93 : decode cX8_makes 93 = .ok (.aload_n 0, 1) := by decide +kernel
theorem dX8_makes_94 : decode cX8_makes 94 = .ok (.getfield 26, 3) := by decide +kernel
theorem dX8_makes_97 : decode cX8_makes 97 = .ok (.aload_n 0, 1) := by decide +kernel
theorem dX8_makes_98 : decode cX8_makes 98 = .ok (.getfield 120, 3) := by decide +kernel
theorem dX8_makes_101 : decode cX8_makes 101 = .ok (.laload, 1) := by decide +kernel
theorem dX8_makes_102 : decode cX8_makes 102 = .ok (.lstore 5, 2) := by decide +kernel
theorem dX8_makes_104 : decode cX8_makes 104 = .ok (.aload_n 0, 1) := by decide +kernel
theorem dX8_makes_105 : decode cX8_makes 105 = .ok (.getfield 29, 3) := by decide +kernel
theorem dX8_makes_108 : decode cX8_makes 108 = .ok (.aload_n 0, 1) := by decide +kernel
theorem dX8_makes_109 : decode cX8_makes 109 = .ok (.getfield 120, 3) := by decide +kernel
theorem dX8_makes_112 : decode cX8_makes 112 = .ok (.laload, 1) := by decide +kernel
theorem dX8_makes_113 : decode cX8_makes 113 = .ok (.lstore 7, 2) := by decide +kernel
theorem dX8_makes_115 : decode cX8_makes 115 = .ok (.aload_n 0, 1) := by decide +kernel
theorem dX8_makes_116 : decode cX8_makes 116 = .ok (.aload_n 0, 1) := by decide +kernel
theorem dX8_makes_117 : decode cX8_makes 117 = .ok (.getfield 141, 3) := by decide +kernel
theorem dX8_makes_120 : decode cX8_makes 120 = .ok (.aload_n 0, 1) := by decide +kernel
theorem dX8_makes_121 : decode cX8_makes 121 = .ok (.getfield 144, 3) := by decide +kernel
theorem dX8_makes_124 : decode cX8_makes 124 = .ok (.lload 5, 2) := by decide +kernel
theorem dX8_makes_126 : decode cX8_makes 126 = .ok (.lload 7, 2) := by decide +kernel
theorem dX8_makes_128 : decode cX8_makes 128 = .ok (.invokevirtual 108, 3) := by decide +kernel
theorem dX8_makes_131 : decode cX8_makes 131 = .ok (.aload_n 0, 1) := by decide +kernel
theorem dX8_makes_132 : decode cX8_makes 132 = .ok (.getfield 69, 3) := by decide +kernel
theorem dX8_makes_135 : decode cX8_makes 135 = .ok (.lstore 9, 2) := by decide +kernel
theorem dX8_makes_137 : decode cX8_makes 137 = .ok (.aload_n 0, 1) := by decide +kernel
theorem dX8_makes_138 : decode cX8_makes 138 = .ok (.getfield 72, 3) := by decide +kernel
theorem dX8_makes_141 : decode cX8_makes 141 = .ok (.lstore 11, 2) := by decide +kernel
theorem dX8_makes_143 : decode cX8_makes 143 = .ok (.aload_n 0, 1) := by decide +kernel
theorem dX8_makes_144 : decode cX8_makes 144 = .ok (.aload_n 0, 1) := by decide +kernel
theorem dX8_makes_145 : decode cX8_makes 145 = .ok (.getfield 147, 3) := by decide +kernel
theorem dX8_makes_148 : decode cX8_makes 148 = .ok (.aload_n 0, 1) := by decide +kernel
theorem dX8_makes_149 : decode cX8_makes 149 = .ok (.getfield 150, 3) := by decide +kernel
theorem dX8_makes_152 : decode cX8_makes 152 = .ok (.lload 5, 2) := by decide +kernel
theorem dX8_makes_154 : decode cX8_makes 154 = .ok (.lload 7, 2) := by decide +kernel
theorem dX8_makes_156 : decode cX8_makes 156 = .ok (.invokevirtual 108, 3) := by decide +kernel
theorem dX8_makes_159 : decode cX8_makes 159 = .ok (.lload 9, 2) := by decide +kernel
theorem dX8_makes_161 : decode cX8_makes 161 = .ok (.lload 11, 2) := by decide +kernel
theorem dX8_makes_163 : decode cX8_makes 163 = .ok (.invokestatic 101, 3) := by decide +kernel
theorem dX8_makes_166 : decode cX8_makes 166 = .ok (.ifCond .eq 17, 3) := by decide +kernel
theorem dX8_makes_169 : decode cX8_makes 169 = .ok (.aload_n 0, 1) := by decide +kernel
theorem dX8_makes_170 : decode cX8_makes 170 = .ok (.getfield 69, 3) := by decide +kernel
theorem dX8_makes_173 : decode cX8_makes 173 = .ok (.aload_n 0, 1) := by decide +kernel
theorem dX8_makes_174 : decode cX8_makes 174 = .ok (.getfield 72, 3) := by decide +kernel
theorem dX8_makes_177 : decode cX8_makes 177 = .ok (.invokestatic 101, 3) := by decide +kernel
theorem dX8_makes_180 : decode cX8_makes 180 = .ok (.ifCond .ne 6, 3) := by decide +kernel
theorem dX8_makes_183 : decode cX8_makes 183 = .ok (.bipush (-3), 2) := by decide +kernel
theorem dX8_makes_185 : decode cX8_makes 185 = .ok (.ireturn, 1) := by decide +kernel
theorem dX8_makes_186 : decode cX8_makes 186 = .ok (.aload_n 0, 1) := by decide +kernel
theorem dX8_makes_187 : decode cX8_makes 187 = .ok (.getfield 13, 3) := by decide +kernel
theorem dX8_makes_190 : decode cX8_makes 190 = .ok (.iload_n 1, 1) := by decide +kernel
theorem dX8_makes_191 : decode cX8_makes 191 = .ok (.lload 9, 2) := by decide +kernel
theorem dX8_makes_193 : decode cX8_makes 193 = .ok (.lastore, 1) := by decide +kernel
theorem dX8_makes_194 : decode cX8_makes 194 = .ok (.aload_n 0, 1) := by decide +kernel
theorem dX8_makes_195 : decode cX8_makes 195 = .ok (.getfield 17, 3) := by decide +kernel
theorem dX8_makes_198 : decode cX8_makes 198 = .ok (.iload_n 1, 1) := by decide +kernel
theorem dX8_makes_199 : decode cX8_makes 199 = .ok (.lload 11, 2) := by decide +kernel
theorem dX8_makes_201 : decode cX8_makes 201 = .ok (.lastore, 1) := by decide +kernel
theorem dX8_makes_202 : decode cX8_makes 202 = .ok (.aload_n 0, 1) := by decide +kernel
theorem dX8_makes_203 : decode cX8_makes 203 = .ok (.getfield 13, 3) := by decide +kernel
theorem dX8_makes_206 : decode cX8_makes 206 = .ok (.iload_n 2, 1) := by decide +kernel
theorem dX8_makes_207 : decode cX8_makes 207 = .ok (.aload_n 0, 1) := by decide +kernel
theorem dX8_makes_208 : decode cX8_makes 208 = .ok (.getfield 69, 3) := by decide +kernel
theorem dX8_makes_211 : decode cX8_makes 211 = .ok (.lastore, 1) := by decide +kernel
theorem dX8_makes_212 : decode cX8_makes 212 = .ok (.aload_n 0, 1) := by decide +kernel
theorem dX8_makes_213 : decode cX8_makes 213 = .ok (.getfield 17, 3) := by decide +kernel
theorem dX8_makes_216 : decode cX8_makes 216 = .ok (.iload_n 2, 1) := by decide +kernel
theorem dX8_makes_217 : decode cX8_makes 217 = .ok (.aload_n 0, 1) := by decide +kernel
theorem dX8_makes_218 : decode cX8_makes 218 = .ok (.getfield 72, 3) := by decide +kernel
theorem dX8_makes_221 : decode cX8_makes 221 = .ok (.lastore, 1) := by decide +kernel
theorem dX8_makes_222 : decode cX8_makes 222 = .ok (.iconst 0, 1) := by decide +kernel
theorem dX8_makes_223 : decode cX8_makes 223 = .ok (.ireturn, 1) := by decide +kernel
theorem dX8_like_0 : decode cX8_like 0 = .ok (.iload_n 1, 1) := by decide +kernel
theorem dX8_like_1 : decode cX8_like 1 = .ok (.invokestatic 92, 3) := by decide +kernel
theorem dX8_like_4 : decode cX8_like 4 = .ok (.ifCond .eq 10, 3) := by decide +kernel
theorem dX8_like_7 : decode cX8_like 7 = .ok (.iload_n 2, 1) := by decide +kernel
theorem dX8_like_8 : decode cX8_like 8 = .ok (.invokestatic 92, 3) := by decide +kernel
theorem dX8_like_11 : decode cX8_like 11 = .ok (.ifCond .ne 5, 3) := by decide +kernel
theorem dX8_like_14 : decode cX8_like 14 = .ok (.iconst (-1), 1) := by decide +kernel
theorem dX8_like_15 : decode cX8_like 15 = .ok (.ireturn, 1) := by decide +kernel
theorem dX8_like_16 : decode cX8_like 16 = .ok (.iconst 0, 1) := by decide +kernel
theorem dX8_like_17 : decode cX8_like 17 = .ok (.istore_n 3, 1) := by decide +kernel
theorem dX8_like_18 : decode cX8_like 18 = .ok (.iload_n 3, 1) := by decide +kernel
theorem dX8_like_19 : decode cX8_like 19 = .ok (.aload_n 0, 1) := by decide +kernel
theorem dX8_like_20 : decode cX8_like 20 = .ok (.getfield 20, 3) := by decide +kernel
theorem dX8_like_23 : decode cX8_like 23 = .ok (.if_icmp .ge 67, 3) := by decide +kernel
theorem dX8_like_26 : decode cX8_like 26 = .ok (.aload_n 0, 1) := by decide +kernel
theorem dX8_like_27 : decode cX8_like 27 = .ok (.aload_n 0, 1) := by decide +kernel
theorem dX8_like_28 : decode cX8_like 28 = .ok (.getfield 13, 3) := by decide +kernel
theorem dX8_like_31 : decode cX8_like 31 = .ok (.iload_n 1, 1) := by decide +kernel
theorem dX8_like_32 : decode cX8_like 32 = .ok (.laload, 1) := by decide +kernel
theorem dX8_like_33 : decode cX8_like 33 = .ok (.aload_n 0, 1) := by decide +kernel
theorem dX8_like_34 : decode cX8_like 34 = .ok (.getfield 17, 3) := by decide +kernel
theorem dX8_like_37 : decode cX8_like 37 = .ok (.iload_n 1, 1) := by decide +kernel
theorem dX8_like_38 : decode cX8_like 38 = .ok (.laload, 1) := by decide +kernel
theorem dX8_like_39 : decode cX8_like 39 = .ok (.aload_n 0, 1) := by decide +kernel
theorem dX8_like_40 : decode cX8_like 40 = .ok (.getfield 26, 3) := by decide +kernel
theorem dX8_like_43 : decode cX8_like 43 = .ok (.iload_n 3, 1) := by decide +kernel
theorem dX8_like_44 : decode cX8_like 44 = .ok (.laload, 1) := by decide +kernel
theorem dX8_like_45 : decode cX8_like 45 = .ok (.aload_n 0, 1) := by decide +kernel
theorem dX8_like_46 : decode cX8_like 46 = .ok (.getfield 29, 3) := by decide +kernel
theorem dX8_like_49 : decode cX8_like 49 = .ok (.iload_n 3, 1) := by decide +kernel
theorem dX8_like_50 : decode cX8_like 50 = .ok (.laload, 1) := by decide +kernel
theorem dX8_like_51 : decode cX8_like 51 = .ok (.invokevirtual 108, 3) := by decide +kernel
theorem dX8_like_54 : decode cX8_like 54 = .ok (.aload_n 0, 1) := by decide +kernel
theorem dX8_like_55 : decode cX8_like 55 = .ok (.getfield 69, 3) := by decide +kernel
theorem dX8_like_58 : decode cX8_like 58 = .ok (.aload_n 0, 1) := by decide +kernel
theorem dX8_like_59 : decode cX8_like 59 = .ok (.getfield 13, 3) := by decide +kernel
theorem dX8_like_62 : decode cX8_like 62 = .ok (.iload_n 2, 1) := by decide +kernel
theorem dX8_like_63 : decode cX8_like 63 = .ok (.laload, 1) := by decide +kernel
theorem dX8_like_64 : decode cX8_like 64 = .ok (.lcmp, 1) := by decide +kernel
theorem dX8_like_65 : decode cX8_like 65 = .ok (.ifCond .ne 19, 3) := by decide +kernel
theorem dX8_like_68 : decode cX8_like 68 = .ok (.aload_n 0, 1) := by decide +kernel
theorem dX8_like_69 : decode cX8_like 69 = .ok (.getfield 72, 3) := by decide +kernel
theorem dX8_like_72 : decode cX8_like 72 = .ok (.aload_n 0, 1) := by decide +kernel
theorem dX8_like_73 : decode cX8_like 73 = .ok (.getfield 17, 3) := by decide +kernel
theorem dX8_like_76 : decode cX8_like 76 = .ok (.iload_n 2, 1) := by decide +kernel
theorem dX8_like_77 : decode cX8_like 77 = .ok (.laload, 1) := by decide +kernel
theorem dX8_like_78 : decode cX8_like 78 = .ok (.lcmp, 1) := by decide +kernel
theorem dX8_like_79 : decode cX8_like 79 = .ok (.ifCond .ne 5, 3) := by decide +kernel
theorem dX8_like_82 : decode cX8_like 82 = .ok (.iconst 1, 1) := by decide +kernel
theorem dX8_like_83 : decode cX8_like 83 = .ok (.ireturn, 1) := by decide +kernel
theorem dX8_like_84 : decode cX8_like 84 = .ok (.iinc 3 1, 3) := by decide +kernel
theorem dX8_like_87 : decode cX8_like 87 = .ok (.goto (-69), 3) := by decide +kernel
theorem dX8_like_90 : decode cX8_like 90 = .ok (.iconst 0, 1) := by decide +kernel
theorem dX8_like_91 : decode cX8_like 91 = .ok (.ireturn, 1) := by decide +kernel
theorem dX8_under_0 : decode cX8_under 0 = .ok (.lload_n 0, 1) := by decide +kernel
theorem dX8_under_1 : decode cX8_under 1 = .ok (.lconst 0, 1) := by decide +kernel
theorem dX8_under_2 : decode cX8_under 2 = .ok (.lcmp, 1) := by decide +kernel
theorem dX8_under_3 : decode cX8_under 3 = .ok (.ifCond .ge 7, 3) := by decide +kernel
theorem dX8_under_6 : decode cX8_under 6 = .ok (.ldc2_w 24, 3) := by decide +kernel
theorem dX8_under_9 : decode cX8_under 9 = .ok (.lreturn, 1) := by decide +kernel
theorem dX8_under_10 : decode cX8_under 10 = .ok (.lconst 0, 1) := by decide +kernel
theorem dX8_under_11 : decode cX8_under 11 = .ok (.lstore_n 2, 1) := by decide +kernel
theorem dX8_under_12 : decode cX8_under 12 = .ok (.ldc2_w 162, 3) := by decide +kernel
theorem dX8_under_15 : decode cX8_under 15 = .ok (.lstore 4, 2) := by decide +kernel
theorem dX8_under_17 : decode cX8_under 17 = .ok (.lload_n 2, 1) := by decide +kernel
theorem dX8_under_18 : decode cX8_under 18 = .ok (.lload 4, 2) := by decide +kernel
theorem dX8_under_20 : decode cX8_under 20 = .ok (.lcmp, 1) := by decide +kernel
theorem dX8_under_21 : decode cX8_under 21 = .ok (.ifCond .ge 40, 3) := by decide +kernel
theorem dX8_under_24 : decode cX8_under 24 = .ok (.lload_n 2, 1) := by decide +kernel
theorem dX8_under_25 : decode cX8_under 25 = .ok (.lload 4, 2) := by decide +kernel
theorem dX8_under_27 : decode cX8_under 27 = .ok (.ladd, 1) := by decide +kernel
theorem dX8_under_28 : decode cX8_under 28 = .ok (.lconst 1, 1) := by decide +kernel
theorem dX8_under_29 : decode cX8_under 29 = .ok (.ladd, 1) := by decide +kernel
theorem dX8_under_30 : decode cX8_under 30 = .ok (.ldc2_w 85, 3) := by decide +kernel
theorem dX8_under_33 : decode cX8_under 33 = .ok (.ldiv, 1) := by decide +kernel
theorem dX8_under_34 : decode cX8_under 34 = .ok (.lstore 6, 2) := by decide +kernel
theorem dX8_under_36 : decode cX8_under 36 = .ok (.lload 6, 2) := by decide +kernel
theorem dX8_under_38 : decode cX8_under 38 = .ok (.lload 6, 2) := by decide +kernel
theorem dX8_under_40 : decode cX8_under 40 = .ok (.lmul, 1) := by decide +kernel
theorem dX8_under_41 : decode cX8_under 41 = .ok (.lload_n 0, 1) := by decide +kernel
theorem dX8_under_42 : decode cX8_under 42 = .ok (.lcmp, 1) := by decide +kernel
theorem dX8_under_43 : decode cX8_under 43 = .ok (.ifCond .gt 9, 3) := by decide +kernel
theorem dX8_under_46 : decode cX8_under 46 = .ok (.lload 6, 2) := by decide +kernel
theorem dX8_under_48 : decode cX8_under 48 = .ok (.lstore_n 2, 1) := by decide +kernel
theorem dX8_under_49 : decode cX8_under 49 = .ok (.goto 9, 3) := by decide +kernel
theorem dX8_under_52 : decode cX8_under 52 = .ok (.lload 6, 2) := by decide +kernel
theorem dX8_under_54 : decode cX8_under 54 = .ok (.lconst 1, 1) := by decide +kernel
theorem dX8_under_55 : decode cX8_under 55 = .ok (.lsub, 1) := by decide +kernel
theorem dX8_under_56 : decode cX8_under 56 = .ok (.lstore 4, 2) := by decide +kernel
theorem dX8_under_58 : decode cX8_under 58 = .ok (.goto (-41), 3) := by decide +kernel
theorem dX8_under_61 : decode cX8_under 61 = .ok (.lload_n 2, 1) := by decide +kernel
theorem dX8_under_62 : decode cX8_under 62 = .ok (.lreturn, 1) := by decide +kernel
theorem dX8_hasSize_0 : decode cX8_hasSize 0 = .ok (.ldc2_w 83, 3) := by decide +kernel
theorem dX8_hasSize_3 : decode cX8_hasSize 3 = .ok (.lload_n 1, 1) := by decide +kernel
theorem dX8_hasSize_4 : decode cX8_hasSize 4 = .ok (.lmul, 1) := by decide +kernel
theorem dX8_hasSize_5 : decode cX8_hasSize 5 = .ok (.ldc2_w 83, 3) := by decide +kernel
theorem dX8_hasSize_8 : decode cX8_hasSize 8 = .ok (.aload_n 0, 1) := by decide +kernel
theorem dX8_hasSize_9 : decode cX8_hasSize 9 = .ok (.getfield 7, 3) := by decide +kernel
theorem dX8_hasSize_12 : decode cX8_hasSize 12 = .ok (.lmul, 1) := by decide +kernel
theorem dX8_hasSize_13 : decode cX8_hasSize 13 = .ok (.aload_n 0, 1) := by decide +kernel
theorem dX8_hasSize_14 : decode cX8_hasSize 14 = .ok (.getfield 66, 3) := by decide +kernel
theorem dX8_hasSize_17 : decode cX8_hasSize 17 = .ok (.aload_n 0, 1) := by decide +kernel
theorem dX8_hasSize_18 : decode cX8_hasSize 18 = .ok (.getfield 66, 3) := by decide +kernel
theorem dX8_hasSize_21 : decode cX8_hasSize 21 = .ok (.lmul, 1) := by decide +kernel
theorem dX8_hasSize_22 : decode cX8_hasSize 22 = .ok (.lsub, 1) := by decide +kernel
theorem dX8_hasSize_23 : decode cX8_hasSize 23 = .ok (.lload_n 3, 1) := by decide +kernel
theorem dX8_hasSize_24 : decode cX8_hasSize 24 = .ok (.lmul, 1) := by decide +kernel
theorem dX8_hasSize_25 : decode cX8_hasSize 25 = .ok (.lload_n 3, 1) := by decide +kernel
theorem dX8_hasSize_26 : decode cX8_hasSize 26 = .ok (.lmul, 1) := by decide +kernel
theorem dX8_hasSize_27 : decode cX8_hasSize 27 = .ok (.lsub, 1) := by decide +kernel
theorem dX8_hasSize_28 : decode cX8_hasSize 28 = .ok (.lstore 5, 2) := by decide +kernel
theorem dX8_hasSize_30 : decode cX8_hasSize 30 = .ok (.lload 5, 2) := by decide +kernel
theorem dX8_hasSize_32 : decode cX8_hasSize 32 = .ok (.invokestatic 164, 3) := by decide +kernel
theorem dX8_hasSize_35 : decode cX8_hasSize 35 = .ok (.lstore 7, 2) := by decide +kernel
theorem dX8_hasSize_37 : decode cX8_hasSize 37 = .ok (.lload 7, 2) := by decide +kernel
theorem dX8_hasSize_39 : decode cX8_hasSize 39 = .ok (.lconst 0, 1) := by decide +kernel
theorem dX8_hasSize_40 : decode cX8_hasSize 40 = .ok (.lcmp, 1) := by decide +kernel
theorem dX8_hasSize_41 : decode cX8_hasSize 41 = .ok (.ifCond .lt 32, 3) := by decide +kernel
theorem dX8_hasSize_44 : decode cX8_hasSize 44 = .ok (.lload 7, 2) := by decide +kernel
theorem dX8_hasSize_46 : decode cX8_hasSize 46 = .ok (.lload 7, 2) := by decide +kernel
theorem dX8_hasSize_48 : decode cX8_hasSize 48 = .ok (.lmul, 1) := by decide +kernel
theorem dX8_hasSize_49 : decode cX8_hasSize 49 = .ok (.lload 5, 2) := by decide +kernel
theorem dX8_hasSize_51 : decode cX8_hasSize 51 = .ok (.lcmp, 1) := by decide +kernel
theorem dX8_hasSize_52 : decode cX8_hasSize 52 = .ok (.ifCond .ne 21, 3) := by decide +kernel
theorem dX8_hasSize_55 : decode cX8_hasSize 55 = .ok (.lload 7, 2) := by decide +kernel
theorem dX8_hasSize_57 : decode cX8_hasSize 57 = .ok (.aload_n 0, 1) := by decide +kernel
theorem dX8_hasSize_58 : decode cX8_hasSize 58 = .ok (.getfield 66, 3) := by decide +kernel
theorem dX8_hasSize_61 : decode cX8_hasSize 61 = .ok (.lload_n 3, 1) := by decide +kernel
theorem dX8_hasSize_62 : decode cX8_hasSize 62 = .ok (.lmul, 1) := by decide +kernel
theorem dX8_hasSize_63 : decode cX8_hasSize 63 = .ok (.lsub, 1) := by decide +kernel
theorem dX8_hasSize_64 : decode cX8_hasSize 64 = .ok (.ldc2_w 85, 3) := by decide +kernel
theorem dX8_hasSize_67 : decode cX8_hasSize 67 = .ok (.lrem, 1) := by decide +kernel
theorem dX8_hasSize_68 : decode cX8_hasSize 68 = .ok (.lconst 0, 1) := by decide +kernel
theorem dX8_hasSize_69 : decode cX8_hasSize 69 = .ok (.lcmp, 1) := by decide +kernel
theorem dX8_hasSize_70 : decode cX8_hasSize 70 = .ok (.ifCond .eq 5, 3) := by decide +kernel
theorem dX8_hasSize_73 : decode cX8_hasSize 73 = .ok (.iconst 0, 1) := by decide +kernel
theorem dX8_hasSize_74 : decode cX8_hasSize 74 = .ok (.ireturn, 1) := by decide +kernel
theorem dX8_hasSize_75 : decode cX8_hasSize 75 = .ok (.aload_n 0, 1) := by decide +kernel
theorem dX8_hasSize_76 : decode cX8_hasSize 76 = .ok (.lload 7, 2) := by decide +kernel
theorem dX8_hasSize_78 : decode cX8_hasSize 78 = .ok (.aload_n 0, 1) := by decide +kernel
theorem dX8_hasSize_79 : decode cX8_hasSize 79 = .ok (.getfield 66, 3) := by decide +kernel
theorem dX8_hasSize_82 : decode cX8_hasSize 82 = .ok (.lload_n 3, 1) := by decide +kernel
theorem dX8_hasSize_83 : decode cX8_hasSize 83 = .ok (.lmul, 1) := by decide +kernel
theorem dX8_hasSize_84 : decode cX8_hasSize 84 = .ok (.lsub, 1) := by decide +kernel
theorem dX8_hasSize_85 : decode cX8_hasSize 85 = .ok (.ldc2_w 85, 3) := by decide +kernel
theorem dX8_hasSize_88 : decode cX8_hasSize 88 = .ok (.ldiv, 1) := by decide +kernel
theorem dX8_hasSize_89 : decode cX8_hasSize 89 = .ok (.lload_n 3, 1) := by decide +kernel
theorem dX8_hasSize_90 : decode cX8_hasSize 90 = .ok (.invokevirtual 75, 3) := by decide +kernel
theorem dX8_hasSize_93 : decode cX8_hasSize 93 = .ok (.iconst 1, 1) := by decide +kernel
theorem dX8_hasSize_94 : decode cX8_hasSize 94 = .ok (.ireturn, 1) := by decide +kernel
theorem dX8_takeOut_0 : decode cX8_takeOut 0 = .ok (.aload_n 0, 1) := by decide +kernel
theorem dX8_takeOut_1 : decode cX8_takeOut 1 = .ok (.lload_n 1, 1) := by decide +kernel
theorem dX8_takeOut_2 : decode cX8_takeOut 2 = .ok (.lload_n 3, 1) := by decide +kernel
theorem dX8_takeOut_3 : decode cX8_takeOut 3 = .ok (.invokevirtual 126, 3) := by decide +kernel
theorem dX8_takeOut_6 : decode cX8_takeOut 6 = .ok (.aload_n 0, 1) := by decide +kernel
theorem dX8_takeOut_7 : decode cX8_takeOut 7 = .ok (.getfield 69, 3) := by decide +kernel
theorem dX8_takeOut_10 : decode cX8_takeOut 10 = .ok (.lstore 5, 2) := by decide +kernel
theorem dX8_takeOut_12 : decode cX8_takeOut 12 = .ok (.aload_n 0, 1) := by decide +kernel
theorem dX8_takeOut_13 : decode cX8_takeOut 13 = .ok (.getfield 72, 3) := by decide +kernel
theorem dX8_takeOut_16 : decode cX8_takeOut 16 = .ok (.lstore 7, 2) := by decide +kernel
theorem dX8_takeOut_18 : decode cX8_takeOut 18 = .ok (.aload_n 0, 1) := by decide +kernel
theorem dX8_takeOut_19 : decode cX8_takeOut 19 = .ok (.aload_n 0, 1) := by decide +kernel
theorem dX8_takeOut_20 : decode cX8_takeOut 20 = .ok (.getfield 168, 3) := by decide +kernel
theorem dX8_takeOut_23 : decode cX8_takeOut 23 = .ok (.aload_n 0, 1) := by decide +kernel
theorem dX8_takeOut_24 : decode cX8_takeOut 24 = .ok (.getfield 171, 3) := by decide +kernel
theorem dX8_takeOut_27 : decode cX8_takeOut 27 = .ok (.lload 5, 2) := by decide +kernel
theorem dX8_takeOut_29 : decode cX8_takeOut 29 = .ok (.lload 7, 2) := by decide +kernel
theorem dX8_takeOut_31 : decode cX8_takeOut 31 = .ok (.invokevirtual 174, 3) := by decide +kernel
theorem dX8_takeOut_34 : decode cX8_takeOut 34 = .ok (.ifCond .eq 70, 3) := by decide +kernel
theorem dX8_takeOut_37 : decode cX8_takeOut 37 = .ok (.aload_n 0, 1) := by decide +kernel
theorem dX8_takeOut_38 : decode cX8_takeOut 38 = .ok (.aload_n 0, 1) := by decide +kernel
theorem dX8_takeOut_39 : decode cX8_takeOut 39 = .ok (.getfield 168, 3) := by decide +kernel
theorem dX8_takeOut_42 : decode cX8_takeOut 42 = .ok (.aload_n 0, 1) := by decide +kernel
theorem dX8_takeOut_43 : decode cX8_takeOut 43 = .ok (.getfield 171, 3) := by decide +kernel
theorem dX8_takeOut_46 : decode cX8_takeOut 46 = .ok (.lload 5, 2) := by decide +kernel
theorem dX8_takeOut_48 : decode cX8_takeOut 48 = .ok (.lload 7, 2) := by decide +kernel
theorem dX8_takeOut_50 : decode cX8_takeOut 50 = .ok (.invokevirtual 123, 3) := by decide +kernel
theorem dX8_takeOut_53 : decode cX8_takeOut 53 = .ok (.aload_n 0, 1) := by decide +kernel
theorem dX8_takeOut_54 : decode cX8_takeOut 54 = .ok (.aload_n 0, 1) := by decide +kernel
theorem dX8_takeOut_55 : decode cX8_takeOut 55 = .ok (.getfield 114, 3) := by decide +kernel
theorem dX8_takeOut_58 : decode cX8_takeOut 58 = .ok (.putfield 168, 3) := by decide +kernel
theorem dX8_takeOut_61 : decode cX8_takeOut 61 = .ok (.aload_n 0, 1) := by decide +kernel
theorem dX8_takeOut_62 : decode cX8_takeOut 62 = .ok (.aload_n 0, 1) := by decide +kernel
theorem dX8_takeOut_63 : decode cX8_takeOut 63 = .ok (.getfield 117, 3) := by decide +kernel
theorem dX8_takeOut_66 : decode cX8_takeOut 66 = .ok (.putfield 171, 3) := by decide +kernel
theorem dX8_takeOut_69 : decode cX8_takeOut 69 = .ok (.aload_n 0, 1) := by decide +kernel
theorem dX8_takeOut_70 : decode cX8_takeOut 70 = .ok (.getfield 32, 3) := by decide +kernel
theorem dX8_takeOut_73 : decode cX8_takeOut 73 = .ok (.aload_n 0, 1) := by decide +kernel
theorem dX8_takeOut_74 : decode cX8_takeOut 74 = .ok (.getfield 178, 3) := by decide +kernel
theorem dX8_takeOut_77 : decode cX8_takeOut 77 = .ok (.lload 5, 2) := by decide +kernel
theorem dX8_takeOut_79 : decode cX8_takeOut 79 = .ok (.lastore, 1) := by decide +kernel
theorem dX8_takeOut_80 : decode cX8_takeOut 80 = .ok (.aload_n 0, 1) := by decide +kernel
theorem dX8_takeOut_81 : decode cX8_takeOut 81 = .ok (.getfield 35, 3) := by decide +kernel
theorem dX8_takeOut_84 : decode cX8_takeOut 84 = .ok (.aload_n 0, 1) := by decide +kernel
theorem dX8_takeOut_85 : decode cX8_takeOut 85 = .ok (.getfield 178, 3) := by decide +kernel
theorem dX8_takeOut_88 : decode cX8_takeOut 88 = .ok (.lload 7, 2) := by decide +kernel
theorem dX8_takeOut_90 : decode cX8_takeOut 90 = .ok (.lastore, 1) := by decide +kernel
theorem dX8_takeOut_91 : decode cX8_takeOut 91 = .ok (.aload_n 0, 1) := by decide +kernel
theorem dX8_takeOut_92 : decode cX8_takeOut 92 = .ok (.dup, 1) := by decide +kernel
theorem dX8_takeOut_93 : decode cX8_takeOut 93 = .ok (.getfield 178, 3) := by decide +kernel
theorem dX8_takeOut_96 : decode cX8_takeOut 96 = .ok (.iconst 1, 1) := by decide +kernel
theorem dX8_takeOut_97 : decode cX8_takeOut 97 = .ok (.iadd, 1) := by decide +kernel
theorem dX8_takeOut_98 : decode cX8_takeOut 98 = .ok (.putfield 178, 3) := by decide +kernel
theorem dX8_takeOut_101 : decode cX8_takeOut 101 = .ok (.goto (-83), 3) := by decide +kernel
theorem dX8_takeOut_104 : decode cX8_takeOut 104 = .ok (.return_, 1) := by decide +kernel
theorem dX8_takeOver_0 : decode cX8_takeOver 0 = .ok (.lconst 0, 1) := by decide +kernel
theorem dX8_takeOver_1 : decode cX8_takeOver 1 = .ok (.lstore_n 3, 1) := by decide +kernel
theorem dX8_takeOver_2 : decode cX8_takeOver 2 = .ok (.ldc2_w 83, 3) := by decide +kernel
theorem dX8_takeOver_5 : decode cX8_takeOver 5 = .ok (.aload_n 0, 1) := by decide +kernel
theorem dX8_takeOver_6 : decode cX8_takeOver 6 = .ok (.getfield 7, 3) := by decide +kernel
theorem dX8_takeOver_9 : decode cX8_takeOver 9 = .ok (.lmul, 1) := by decide +kernel
theorem dX8_takeOver_10 : decode cX8_takeOver 10 = .ok (.aload_n 0, 1) := by decide +kernel
theorem dX8_takeOver_11 : decode cX8_takeOver 11 = .ok (.getfield 66, 3) := by decide +kernel
theorem dX8_takeOver_14 : decode cX8_takeOver 14 = .ok (.aload_n 0, 1) := by decide +kernel
theorem dX8_takeOver_15 : decode cX8_takeOver 15 = .ok (.getfield 66, 3) := by decide +kernel
theorem dX8_takeOver_18 : decode cX8_takeOver 18 = .ok (.lmul, 1) := by decide +kernel
theorem dX8_takeOver_19 : decode cX8_takeOver 19 = .ok (.lsub, 1) := by decide +kernel
theorem dX8_takeOver_20 : decode cX8_takeOver 20 = .ok (.lload_n 3, 1) := by decide +kernel
theorem dX8_takeOver_21 : decode cX8_takeOver 21 = .ok (.lmul, 1) := by decide +kernel
theorem dX8_takeOver_22 : decode cX8_takeOver 22 = .ok (.lload_n 3, 1) := by decide +kernel
theorem dX8_takeOver_23 : decode cX8_takeOver 23 = .ok (.lmul, 1) := by decide +kernel
theorem dX8_takeOver_24 : decode cX8_takeOver 24 = .ok (.ldc2_w 83, 3) := by decide +kernel
theorem dX8_takeOver_27 : decode cX8_takeOver 27 = .ok (.lload_n 1, 1) := by decide +kernel
theorem dX8_takeOver_28 : decode cX8_takeOver 28 = .ok (.lmul, 1) := by decide +kernel
theorem dX8_takeOver_29 : decode cX8_takeOver 29 = .ok (.lcmp, 1) := by decide +kernel
theorem dX8_takeOver_30 : decode cX8_takeOver 30 = .ok (.ifCond .gt 57, 3) := by decide +kernel
theorem dX8_takeOver_33 : decode cX8_takeOver 33 = .ok (.aload_n 0, 1) := by decide +kernel
theorem dX8_takeOver_34 : decode cX8_takeOver 34 = .ok (.lload_n 1, 1) := by decide +kernel
theorem dX8_takeOver_35 : decode cX8_takeOver 35 = .ok (.lload_n 3, 1) := by decide +kernel
theorem dX8_takeOver_36 : decode cX8_takeOver 36 = .ok (.invokevirtual 181, 3) := by decide +kernel
theorem dX8_takeOver_39 : decode cX8_takeOver 39 = .ok (.ifCond .eq 41, 3) := by decide +kernel
theorem dX8_takeOver_42 : decode cX8_takeOver 42 = .ok (.aload_n 0, 1) := by decide +kernel
theorem dX8_takeOver_43 : decode cX8_takeOver 43 = .ok (.getfield 69, 3) := by decide +kernel
theorem dX8_takeOver_46 : decode cX8_takeOver 46 = .ok (.lstore 5, 2) := by decide +kernel
theorem dX8_takeOver_48 : decode cX8_takeOver 48 = .ok (.aload_n 0, 1) := by decide +kernel
theorem dX8_takeOver_49 : decode cX8_takeOver 49 = .ok (.getfield 72, 3) := by decide +kernel
theorem dX8_takeOver_52 : decode cX8_takeOver 52 = .ok (.lstore 7, 2) := by decide +kernel
theorem dX8_takeOver_54 : decode cX8_takeOver 54 = .ok (.aload_n 0, 1) := by decide +kernel
theorem dX8_takeOver_55 : decode cX8_takeOver 55 = .ok (.lload 5, 2) := by decide +kernel
theorem dX8_takeOver_57 : decode cX8_takeOver 57 = .ok (.lload 7, 2) := by decide +kernel
theorem dX8_takeOver_59 : decode cX8_takeOver 59 = .ok (.invokevirtual 184, 3) := by decide +kernel
theorem dX8_takeOver_62 : decode cX8_takeOver 62 = .ok (.aload_n 0, 1) := by decide +kernel
theorem dX8_takeOver_63 : decode cX8_takeOver 63 = .ok (.lload 5, 2) := by decide +kernel
theorem dX8_takeOver_65 : decode cX8_takeOver 65 = .ok (.aload_n 0, 1) := by decide +kernel
theorem dX8_takeOver_66 : decode cX8_takeOver 66 = .ok (.getfield 66, 3) := by decide +kernel
theorem dX8_takeOver_69 : decode cX8_takeOver 69 = .ok (.lload 7, 2) := by decide +kernel
theorem dX8_takeOver_71 : decode cX8_takeOver 71 = .ok (.lmul, 1) := by decide +kernel
theorem dX8_takeOver_72 : decode cX8_takeOver 72 = .ok (.ladd, 1) := by decide +kernel
theorem dX8_takeOver_73 : decode cX8_takeOver 73 = .ok (.lload 7, 2) := by decide +kernel
theorem dX8_takeOver_75 : decode cX8_takeOver 75 = .ok (.lneg, 1) := by decide +kernel
theorem dX8_takeOver_76 : decode cX8_takeOver 76 = .ok (.invokevirtual 184, 3) := by decide +kernel
theorem dX8_takeOver_79 : decode cX8_takeOver 79 = .ok (.return_, 1) := by decide +kernel
theorem dX8_takeOver_80 : decode cX8_takeOver 80 = .ok (.lload_n 3, 1) := by decide +kernel
theorem dX8_takeOver_81 : decode cX8_takeOver 81 = .ok (.lconst 1, 1) := by decide +kernel
theorem dX8_takeOver_82 : decode cX8_takeOver 82 = .ok (.ladd, 1) := by decide +kernel
theorem dX8_takeOver_83 : decode cX8_takeOver 83 = .ok (.lstore_n 3, 1) := by decide +kernel
theorem dX8_takeOver_84 : decode cX8_takeOver 84 = .ok (.goto (-82), 3) := by decide +kernel
theorem dX8_takeOver_87 : decode cX8_takeOver 87 = .ok (.aload_n 0, 1) := by decide +kernel
theorem dX8_takeOver_88 : decode cX8_takeOver 88 = .ok (.lload_n 1, 1) := by decide +kernel
theorem dX8_takeOver_89 : decode cX8_takeOver 89 = .ok (.lconst 0, 1) := by decide +kernel
theorem dX8_takeOver_90 : decode cX8_takeOver 90 = .ok (.invokevirtual 184, 3) := by decide +kernel
theorem dX8_takeOver_93 : decode cX8_takeOver 93 = .ok (.return_, 1) := by decide +kernel
theorem dX8_isAhead_0 : decode cX8_isAhead 0 = .ok (.aload_n 0, 1) := by decide +kernel
theorem dX8_isAhead_1 : decode cX8_isAhead 1 = .ok (.aload_n 0, 1) := by decide +kernel
theorem dX8_isAhead_2 : decode cX8_isAhead 2 = .ok (.getfield 32, 3) := by decide +kernel
theorem dX8_isAhead_5 : decode cX8_isAhead 5 = .ok (.iload_n 1, 1) := by decide +kernel
theorem dX8_isAhead_6 : decode cX8_isAhead 6 = .ok (.laload, 1) := by decide +kernel
theorem dX8_isAhead_7 : decode cX8_isAhead 7 = .ok (.aload_n 0, 1) := by decide +kernel
theorem dX8_isAhead_8 : decode cX8_isAhead 8 = .ok (.getfield 35, 3) := by decide +kernel
theorem dX8_isAhead_11 : decode cX8_isAhead 11 = .ok (.iload_n 1, 1) := by decide +kernel
theorem dX8_isAhead_12 : decode cX8_isAhead 12 = .ok (.laload, 1) := by decide +kernel
theorem dX8_isAhead_13 : decode cX8_isAhead 13 = .ok (.invokevirtual 79, 3) := by decide +kernel
theorem dX8_isAhead_16 : decode cX8_isAhead 16 = .ok (.lstore_n 3, 1) := by decide +kernel
theorem dX8_isAhead_17 : decode cX8_isAhead 17 = .ok (.aload_n 0, 1) := by decide +kernel
theorem dX8_isAhead_18 : decode cX8_isAhead 18 = .ok (.aload_n 0, 1) := by decide +kernel
theorem dX8_isAhead_19 : decode cX8_isAhead 19 = .ok (.getfield 32, 3) := by decide +kernel
theorem dX8_isAhead_22 : decode cX8_isAhead 22 = .ok (.iload_n 2, 1) := by decide +kernel
theorem dX8_isAhead_23 : decode cX8_isAhead 23 = .ok (.laload, 1) := by decide +kernel
theorem dX8_isAhead_24 : decode cX8_isAhead 24 = .ok (.aload_n 0, 1) := by decide +kernel
theorem dX8_isAhead_25 : decode cX8_isAhead 25 = .ok (.getfield 35, 3) := by decide +kernel
theorem dX8_isAhead_28 : decode cX8_isAhead 28 = .ok (.iload_n 2, 1) := by decide +kernel
theorem dX8_isAhead_29 : decode cX8_isAhead 29 = .ok (.laload, 1) := by decide +kernel
theorem dX8_isAhead_30 : decode cX8_isAhead 30 = .ok (.invokevirtual 79, 3) := by decide +kernel
theorem dX8_isAhead_33 : decode cX8_isAhead 33 = .ok (.lstore 5, 2) := by decide +kernel
theorem dX8_isAhead_35 : decode cX8_isAhead 35 = .ok (.lload_n 3, 1) := by decide +kernel
theorem dX8_isAhead_36 : decode cX8_isAhead 36 = .ok (.lload 5, 2) := by decide +kernel
theorem dX8_isAhead_38 : decode cX8_isAhead 38 = .ok (.lcmp, 1) := by decide +kernel
theorem dX8_isAhead_39 : decode cX8_isAhead 39 = .ok (.ifCond .eq 18, 3) := by decide +kernel
theorem dX8_isAhead_42 : decode cX8_isAhead 42 = .ok (.lload_n 3, 1) := by decide +kernel
theorem dX8_isAhead_43 : decode cX8_isAhead 43 = .ok (.lload 5, 2) := by decide +kernel
theorem dX8_isAhead_45 : decode cX8_isAhead 45 = .ok (.lcmp, 1) := by decide +kernel
theorem dX8_isAhead_46 : decode cX8_isAhead 46 = .ok (.ifCond .ge 7, 3) := by decide +kernel
theorem dX8_isAhead_49 : decode cX8_isAhead 49 = .ok (.iconst 1, 1) := by decide +kernel
theorem dX8_isAhead_50 : decode cX8_isAhead 50 = .ok (.goto 68, 3) := by decide +kernel
theorem dX8_isAhead_53 : decode cX8_isAhead 53 = .ok (.iconst 0, 1) := by decide +kernel
theorem dX8_isAhead_54 : decode cX8_isAhead 54 = .ok (.goto 64, 3) := by decide +kernel
theorem dX8_isAhead_57 : decode cX8_isAhead 57 = .ok (.aload_n 0, 1) := by decide +kernel
theorem dX8_isAhead_58 : decode cX8_isAhead 58 = .ok (.getfield 32, 3) := by decide +kernel
theorem dX8_isAhead_61 : decode cX8_isAhead 61 = .ok (.iload_n 1, 1) := by decide +kernel
theorem dX8_isAhead_62 : decode cX8_isAhead 62 = .ok (.laload, 1) := by decide +kernel
theorem dX8_isAhead_63 : decode cX8_isAhead 63 = .ok (.aload_n 0, 1) := by decide +kernel
theorem dX8_isAhead_64 : decode cX8_isAhead 64 = .ok (.getfield 32, 3) := by decide +kernel
theorem dX8_isAhead_67 : decode cX8_isAhead 67 = .ok (.iload_n 2, 1) := by decide +kernel
theorem dX8_isAhead_68 : decode cX8_isAhead 68 = .ok (.laload, 1) := by decide +kernel
theorem dX8_isAhead_69 : decode cX8_isAhead 69 = .ok (.lcmp, 1) := by decide +kernel
theorem dX8_isAhead_70 : decode cX8_isAhead 70 = .ok (.ifCond .eq 27, 3) := by decide +kernel
theorem dX8_isAhead_73 : decode cX8_isAhead 73 = .ok (.aload_n 0, 1) := by decide +kernel
theorem dX8_isAhead_74 : decode cX8_isAhead 74 = .ok (.getfield 32, 3) := by decide +kernel
theorem dX8_isAhead_77 : decode cX8_isAhead 77 = .ok (.iload_n 1, 1) := by decide +kernel
theorem dX8_isAhead_78 : decode cX8_isAhead 78 = .ok (.laload, 1) := by decide +kernel
theorem dX8_isAhead_79 : decode cX8_isAhead 79 = .ok (.aload_n 0, 1) := by decide +kernel
theorem dX8_isAhead_80 : decode cX8_isAhead 80 = .ok (.getfield 32, 3) := by decide +kernel
theorem dX8_isAhead_83 : decode cX8_isAhead 83 = .ok (.iload_n 2, 1) := by decide +kernel
theorem dX8_isAhead_84 : decode cX8_isAhead 84 = .ok (.laload, 1) := by decide +kernel
theorem dX8_isAhead_85 : decode cX8_isAhead 85 = .ok (.lcmp, 1) := by decide +kernel
theorem dX8_isAhead_86 : decode cX8_isAhead 86 = .ok (.ifCond .ge 7, 3) := by decide +kernel
theorem dX8_isAhead_89 : decode cX8_isAhead 89 = .ok (.iconst 1, 1) := by decide +kernel
theorem dX8_isAhead_90 : decode cX8_isAhead 90 = .ok (.goto 28, 3) := by decide +kernel
theorem dX8_isAhead_93 : decode cX8_isAhead 93 = .ok (.iconst 0, 1) := by decide +kernel
theorem dX8_isAhead_94 : decode cX8_isAhead 94 = .ok (.goto 24, 3) := by decide +kernel
theorem dX8_isAhead_97 : decode cX8_isAhead 97 = .ok (.aload_n 0, 1) := by decide +kernel
theorem dX8_isAhead_98 : decode cX8_isAhead 98 = .ok (.getfield 35, 3) := by decide +kernel
theorem dX8_isAhead_101 : decode cX8_isAhead 101 = .ok (.iload_n 1, 1) := by decide +kernel
theorem dX8_isAhead_102 : decode cX8_isAhead 102 = .ok (.laload, 1) := by decide +kernel
theorem dX8_isAhead_103 : decode cX8_isAhead 103 = .ok (.aload_n 0, 1) := by decide +kernel
theorem dX8_isAhead_104 : decode cX8_isAhead 104 = .ok (.getfield 35, 3) := by decide +kernel
theorem dX8_isAhead_107 : decode cX8_isAhead 107 = .ok (.iload_n 2, 1) := by decide +kernel
theorem dX8_isAhead_108 : decode cX8_isAhead 108 = .ok (.laload, 1) := by decide +kernel
theorem dX8_isAhead_109 : decode cX8_isAhead 109 = .ok (.lcmp, 1) := by decide +kernel
theorem dX8_isAhead_110 : decode cX8_isAhead 110 = .ok (.ifCond .ge 7, 3) := by decide +kernel
theorem dX8_isAhead_113 : decode cX8_isAhead 113 = .ok (.iconst 1, 1) := by decide +kernel
theorem dX8_isAhead_114 : decode cX8_isAhead 114 = .ok (.goto 4, 3) := by decide +kernel
theorem dX8_isAhead_117 : decode cX8_isAhead 117 = .ok (.iconst 0, 1) := by decide +kernel
theorem dX8_isAhead_118 : decode cX8_isAhead 118 = .ok (.ireturn, 1) := by decide +kernel
theorem dX8_layParts_0 : decode cX8_layParts 0 = .ok (.aload_n 0, 1) := by decide +kernel
theorem dX8_layParts_1 : decode cX8_layParts 1 = .ok (.iconst 0, 1) := by decide +kernel
theorem dX8_layParts_2 : decode cX8_layParts 2 = .ok (.putfield 178, 3) := by decide +kernel
theorem dX8_layParts_5 : decode cX8_layParts 5 = .ok (.aload_n 0, 1) := by decide +kernel
theorem dX8_layParts_6 : decode cX8_layParts 6 = .ok (.lload_n 1, 1) := by decide +kernel
theorem dX8_layParts_7 : decode cX8_layParts 7 = .ok (.putfield 168, 3) := by decide +kernel
theorem dX8_layParts_10 : decode cX8_layParts 10 = .ok (.aload_n 0, 1) := by decide +kernel
theorem dX8_layParts_11 : decode cX8_layParts 11 = .ok (.lload_n 3, 1) := by decide +kernel
theorem dX8_layParts_12 : decode cX8_layParts 12 = .ok (.putfield 171, 3) := by decide +kernel
theorem dX8_layParts_15 : decode cX8_layParts 15 = .ok (.ldc2_w 85, 3) := by decide +kernel
theorem dX8_layParts_18 : decode cX8_layParts 18 = .ok (.lstore 5, 2) := by decide +kernel
theorem dX8_layParts_20 : decode cX8_layParts 20 = .ok (.lload 5, 2) := by decide +kernel
theorem dX8_layParts_22 : decode cX8_layParts 22 = .ok (.lload 5, 2) := by decide +kernel
theorem dX8_layParts_24 : decode cX8_layParts 24 = .ok (.lmul, 1) := by decide +kernel
theorem dX8_layParts_25 : decode cX8_layParts 25 = .ok (.aload_n 0, 1) := by decide +kernel
theorem dX8_layParts_26 : decode cX8_layParts 26 = .ok (.aload_n 0, 1) := by decide +kernel
theorem dX8_layParts_27 : decode cX8_layParts 27 = .ok (.getfield 168, 3) := by decide +kernel
theorem dX8_layParts_30 : decode cX8_layParts 30 = .ok (.aload_n 0, 1) := by decide +kernel
theorem dX8_layParts_31 : decode cX8_layParts 31 = .ok (.getfield 171, 3) := by decide +kernel
theorem dX8_layParts_34 : decode cX8_layParts 34 = .ok (.invokevirtual 79, 3) := by decide +kernel
theorem dX8_layParts_37 : decode cX8_layParts 37 = .ok (.lcmp, 1) := by decide +kernel
theorem dX8_layParts_38 : decode cX8_layParts 38 = .ok (.ifCond .gt 38, 3) := by decide +kernel
theorem dX8_layParts_41 : decode cX8_layParts 41 = .ok (.aload_n 0, 1) := by decide +kernel
theorem dX8_layParts_42 : decode cX8_layParts 42 = .ok (.aload_n 0, 1) := by decide +kernel
theorem dX8_layParts_43 : decode cX8_layParts 43 = .ok (.getfield 168, 3) := by decide +kernel
theorem dX8_layParts_46 : decode cX8_layParts 46 = .ok (.aload_n 0, 1) := by decide +kernel
theorem dX8_layParts_47 : decode cX8_layParts 47 = .ok (.getfield 171, 3) := by decide +kernel
theorem dX8_layParts_50 : decode cX8_layParts 50 = .ok (.invokevirtual 79, 3) := by decide +kernel
theorem dX8_layParts_53 : decode cX8_layParts 53 = .ok (.lload 5, 2) := by decide +kernel
theorem dX8_layParts_55 : decode cX8_layParts 55 = .ok (.lrem, 1) := by decide +kernel
theorem dX8_layParts_56 : decode cX8_layParts 56 = .ok (.lconst 0, 1) := by decide +kernel
theorem dX8_layParts_57 : decode cX8_layParts 57 = .ok (.lcmp, 1) := by decide +kernel
theorem dX8_layParts_58 : decode cX8_layParts 58 = .ok (.ifCond .ne 9, 3) := by decide +kernel
theorem dX8_layParts_61 : decode cX8_layParts 61 = .ok (.aload_n 0, 1) := by decide +kernel
theorem dX8_layParts_62 : decode cX8_layParts 62 = .ok (.lload 5, 2) := by decide +kernel
theorem dX8_layParts_64 : decode cX8_layParts 64 = .ok (.invokevirtual 187, 3) := by decide +kernel
theorem dX8_layParts_67 : decode cX8_layParts 67 = .ok (.lload 5, 2) := by decide +kernel
theorem dX8_layParts_69 : decode cX8_layParts 69 = .ok (.lconst 1, 1) := by decide +kernel
theorem dX8_layParts_70 : decode cX8_layParts 70 = .ok (.ladd, 1) := by decide +kernel
theorem dX8_layParts_71 : decode cX8_layParts 71 = .ok (.lstore 5, 2) := by decide +kernel
theorem dX8_layParts_73 : decode cX8_layParts 73 = .ok (.goto (-53), 3) := by decide +kernel
theorem dX8_layParts_76 : decode cX8_layParts 76 = .ok (.aload_n 0, 1) := by decide +kernel
theorem dX8_layParts_77 : decode cX8_layParts 77 = .ok (.aload_n 0, 1) := by decide +kernel
theorem dX8_layParts_78 : decode cX8_layParts 78 = .ok (.getfield 168, 3) := by decide +kernel
theorem dX8_layParts_81 : decode cX8_layParts 81 = .ok (.aload_n 0, 1) := by decide +kernel
theorem dX8_layParts_82 : decode cX8_layParts 82 = .ok (.getfield 171, 3) := by decide +kernel
theorem dX8_layParts_85 : decode cX8_layParts 85 = .ok (.invokevirtual 79, 3) := by decide +kernel
theorem dX8_layParts_88 : decode cX8_layParts 88 = .ok (.lconst 1, 1) := by decide +kernel
theorem dX8_layParts_89 : decode cX8_layParts 89 = .ok (.lcmp, 1) := by decide +kernel
theorem dX8_layParts_90 : decode cX8_layParts 90 = .ok (.ifCond .le 19, 3) := by decide +kernel
theorem dX8_layParts_93 : decode cX8_layParts 93 = .ok (.aload_n 0, 1) := by decide +kernel
theorem dX8_layParts_94 : decode cX8_layParts 94 = .ok (.aload_n 0, 1) := by decide +kernel
theorem dX8_layParts_95 : decode cX8_layParts 95 = .ok (.aload_n 0, 1) := by decide +kernel
theorem dX8_layParts_96 : decode cX8_layParts 96 = .ok (.getfield 168, 3) := by decide +kernel
theorem dX8_layParts_99 : decode cX8_layParts 99 = .ok (.aload_n 0, 1) := by decide +kernel
theorem dX8_layParts_100 : decode cX8_layParts 100 = .ok (.getfield 171, 3) := by decide +kernel
theorem dX8_layParts_103 : decode cX8_layParts 103 = .ok (.invokevirtual 79, 3) := by decide +kernel
theorem dX8_layParts_106 : decode cX8_layParts 106 = .ok (.invokevirtual 187, 3) := by decide +kernel
theorem dX8_layParts_109 : decode cX8_layParts 109 = .ok (.iconst 1, 1) := by decide +kernel
theorem dX8_layParts_110 : decode cX8_layParts 110 = .ok (.istore 5, 2) := by decide +kernel
theorem dX8_layParts_112 : decode cX8_layParts 112 = .ok (.iload 5, 2) := by decide +kernel
theorem dX8_layParts_114 : decode cX8_layParts 114 = .ok (.aload_n 0, 1) := by decide +kernel
theorem dX8_layParts_115 : decode cX8_layParts 115 = .ok (.getfield 178, 3) := by decide +kernel
theorem dX8_layParts_118 : decode cX8_layParts 118 = .ok (.if_icmp .ge 109, 3) := by decide +kernel
theorem dX8_layParts_121 : decode cX8_layParts 121 = .ok (.iload 5, 2) := by decide +kernel
theorem dX8_layParts_123 : decode cX8_layParts 123 = .ok (.istore 6, 2) := by decide +kernel
theorem dX8_layParts_125 : decode cX8_layParts 125 = .ok (.iload 6, 2) := by decide +kernel
theorem dX8_layParts_127 : decode cX8_layParts 127 = .ok (.ifCond .le 94, 3) := by decide +kernel
theorem dX8_layParts_130 : decode cX8_layParts 130 = .ok (.aload_n 0, 1) := by decide +kernel
theorem dX8_layParts_131 : decode cX8_layParts 131 = .ok (.iload 6, 2) := by decide +kernel
theorem dX8_layParts_133 : decode cX8_layParts 133 = .ok (.iload 6, 2) := by decide +kernel
theorem dX8_layParts_135 : decode cX8_layParts 135 = .ok (.iconst 1, 1) := by decide +kernel
theorem dX8_layParts_136 : decode cX8_layParts 136 = .ok (.isub, 1) := by decide +kernel
theorem dX8_layParts_137 : decode cX8_layParts 137 = .ok (.invokevirtual 191, 3) := by decide +kernel
theorem dX8_layParts_140 : decode cX8_layParts 140 = .ok (.ifCond .eq 81, 3) := by decide +kernel
theorem dX8_layParts_143 : decode cX8_layParts 143 = .ok (.aload_n 0, 1) := by decide +kernel
theorem dX8_layParts_144 : decode cX8_layParts 144 = .ok (.getfield 32, 3) := by decide +kernel
theorem dX8_layParts_147 : decode cX8_layParts 147 = .ok (.iload 6, 2) := by decide +kernel
theorem dX8_layParts_149 : decode cX8_layParts 149 = .ok (.laload, 1) := by decide +kernel
theorem dX8_layParts_150 : decode cX8_layParts 150 = .ok (.lstore 7, 2) := by decide +kernel
theorem dX8_layParts_152 : decode cX8_layParts 152 = .ok (.aload_n 0, 1) := by decide +kernel
theorem dX8_layParts_153 : decode cX8_layParts 153 = .ok (.getfield 35, 3) := by decide +kernel
theorem dX8_layParts_156 : decode cX8_layParts 156 = .ok (.iload 6, 2) := by decide +kernel
theorem dX8_layParts_158 : decode cX8_layParts 158 = .ok (.laload, 1) := by decide +kernel
theorem dX8_layParts_159 : decode cX8_layParts 159 = .ok (.lstore 9, 2) := by decide +kernel
theorem dX8_layParts_161 : decode cX8_layParts 161 = .ok (.aload_n 0, 1) := by decide +kernel
theorem dX8_layParts_162 : decode cX8_layParts 162 = .ok (.getfield 32, 3) := by decide +kernel
theorem dX8_layParts_165 : decode cX8_layParts 165 = .ok (.iload 6, 2) := by decide +kernel
theorem dX8_layParts_167 : decode cX8_layParts 167 = .ok (.aload_n 0, 1) := by decide +kernel
theorem dX8_layParts_168 : decode cX8_layParts 168 = .ok (.getfield 32, 3) := by decide +kernel
theorem dX8_layParts_171 : decode cX8_layParts 171 = .ok (.iload 6, 2) := by decide +kernel
theorem dX8_layParts_173 : decode cX8_layParts 173 = .ok (.iconst 1, 1) := by decide +kernel
theorem dX8_layParts_174 : decode cX8_layParts 174 = .ok (.isub, 1) := by decide +kernel
theorem dX8_layParts_175 : decode cX8_layParts 175 = .ok (.laload, 1) := by decide +kernel
theorem dX8_layParts_176 : decode cX8_layParts 176 = .ok (.lastore, 1) := by decide +kernel
theorem dX8_layParts_177 : decode cX8_layParts 177 = .ok (.aload_n 0, 1) := by decide +kernel
theorem dX8_layParts_178 : decode cX8_layParts 178 = .ok (.getfield 35, 3) := by decide +kernel
theorem dX8_layParts_181 : decode cX8_layParts 181 = .ok (.iload 6, 2) := by decide +kernel
theorem dX8_layParts_183 : decode cX8_layParts 183 = .ok (.aload_n 0, 1) := by decide +kernel
theorem dX8_layParts_184 : decode cX8_layParts 184 = .ok (.getfield 35, 3) := by decide +kernel
theorem dX8_layParts_187 : decode cX8_layParts 187 = .ok (.iload 6, 2) := by decide +kernel
theorem dX8_layParts_189 : decode cX8_layParts 189 = .ok (.iconst 1, 1) := by decide +kernel
theorem dX8_layParts_190 : decode cX8_layParts 190 = .ok (.isub, 1) := by decide +kernel
theorem dX8_layParts_191 : decode cX8_layParts 191 = .ok (.laload, 1) := by decide +kernel
theorem dX8_layParts_192 : decode cX8_layParts 192 = .ok (.lastore, 1) := by decide +kernel
theorem dX8_layParts_193 : decode cX8_layParts 193 = .ok (.aload_n 0, 1) := by decide +kernel
theorem dX8_layParts_194 : decode cX8_layParts 194 = .ok (.getfield 32, 3) := by decide +kernel
theorem dX8_layParts_197 : decode cX8_layParts 197 = .ok (.iload 6, 2) := by decide +kernel
theorem dX8_layParts_199 : decode cX8_layParts 199 = .ok (.iconst 1, 1) := by decide +kernel
theorem dX8_layParts_200 : decode cX8_layParts 200 = .ok (.isub, 1) := by decide +kernel
theorem dX8_layParts_201 : decode cX8_layParts 201 = .ok (.lload 7, 2) := by decide +kernel
theorem dX8_layParts_203 : decode cX8_layParts 203 = .ok (.lastore, 1) := by decide +kernel
theorem dX8_layParts_204 : decode cX8_layParts 204 = .ok (.aload_n 0, 1) := by decide +kernel
theorem dX8_layParts_205 : decode cX8_layParts 205 = .ok (.getfield 35, 3) := by decide +kernel
theorem dX8_layParts_208 : decode cX8_layParts 208 = .ok (.iload 6, 2) := by decide +kernel
theorem dX8_layParts_210 : decode cX8_layParts 210 = .ok (.iconst 1, 1) := by decide +kernel
theorem dX8_layParts_211 : decode cX8_layParts 211 = .ok (.isub, 1) := by decide +kernel
theorem dX8_layParts_212 : decode cX8_layParts 212 = .ok (.lload 9, 2) := by decide +kernel
theorem dX8_layParts_214 : decode cX8_layParts 214 = .ok (.lastore, 1) := by decide +kernel
theorem dX8_layParts_215 : decode cX8_layParts 215 = .ok (.iinc 6 (-1), 3) := by decide +kernel
theorem dX8_layParts_218 : decode cX8_layParts 218 = .ok (.goto (-93), 3) := by decide +kernel
theorem dX8_layParts_221 : decode cX8_layParts 221 = .ok (.iinc 5 1, 3) := by decide +kernel
theorem dX8_layParts_224 : decode cX8_layParts 224 = .ok (.goto (-112), 3) := by decide +kernel
theorem dX8_layParts_227 : decode cX8_layParts 227 = .ok (.return_, 1) := by decide +kernel
theorem dX8_parts_0 : decode cX8_parts 0 = .ok (.iload_n 1, 1) := by decide +kernel
theorem dX8_parts_1 : decode cX8_parts 1 = .ok (.invokestatic 92, 3) := by decide +kernel
theorem dX8_parts_4 : decode cX8_parts 4 = .ok (.ifCond .ne 5, 3) := by decide +kernel
theorem dX8_parts_7 : decode cX8_parts 7 = .ok (.iconst (-1), 1) := by decide +kernel
theorem dX8_parts_8 : decode cX8_parts 8 = .ok (.ireturn, 1) := by decide +kernel
theorem dX8_parts_9 : decode cX8_parts 9 = .ok (.aload_n 0, 1) := by decide +kernel
theorem dX8_parts_10 : decode cX8_parts 10 = .ok (.iload_n 1, 1) := by decide +kernel
theorem dX8_parts_11 : decode cX8_parts 11 = .ok (.invokevirtual 131, 3) := by decide +kernel
theorem dX8_parts_14 : decode cX8_parts 14 = .ok (.ifCond .eq 6, 3) := by decide +kernel
theorem dX8_parts_17 : decode cX8_parts 17 = .ok (.bipush (-2), 2) := by decide +kernel
theorem dX8_parts_19 : decode cX8_parts 19 = .ok (.ireturn, 1) := by decide +kernel
theorem dX8_parts_20 : decode cX8_parts 20 = .ok (.aload_n 0, 1) := by decide +kernel
theorem dX8_parts_21 : decode cX8_parts 21 = .ok (.aload_n 0, 1) := by decide +kernel
theorem dX8_parts_22 : decode cX8_parts 22 = .ok (.getfield 13, 3) := by decide +kernel
theorem dX8_parts_25 : decode cX8_parts 25 = .ok (.iload_n 1, 1) := by decide +kernel
theorem dX8_parts_26 : decode cX8_parts 26 = .ok (.laload, 1) := by decide +kernel
theorem dX8_parts_27 : decode cX8_parts 27 = .ok (.aload_n 0, 1) := by decide +kernel
theorem dX8_parts_28 : decode cX8_parts 28 = .ok (.getfield 17, 3) := by decide +kernel
theorem dX8_parts_31 : decode cX8_parts 31 = .ok (.iload_n 1, 1) := by decide +kernel
theorem dX8_parts_32 : decode cX8_parts 32 = .ok (.laload, 1) := by decide +kernel
theorem dX8_parts_33 : decode cX8_parts 33 = .ok (.invokevirtual 195, 3) := by decide +kernel
theorem dX8_parts_36 : decode cX8_parts 36 = .ok (.aload_n 0, 1) := by decide +kernel
theorem dX8_parts_37 : decode cX8_parts 37 = .ok (.getfield 178, 3) := by decide +kernel
theorem dX8_parts_40 : decode cX8_parts 40 = .ok (.ireturn, 1) := by decide +kernel
theorem dX8_part_0 : decode cX8_part 0 = .ok (.iload_n 1, 1) := by decide +kernel
theorem dX8_part_1 : decode cX8_part 1 = .ok (.invokestatic 92, 3) := by decide +kernel
theorem dX8_part_4 : decode cX8_part 4 = .ok (.ifCond .eq 14, 3) := by decide +kernel
theorem dX8_part_7 : decode cX8_part 7 = .ok (.iload_n 2, 1) := by decide +kernel
theorem dX8_part_8 : decode cX8_part 8 = .ok (.invokestatic 92, 3) := by decide +kernel
theorem dX8_part_11 : decode cX8_part 11 = .ok (.ifCond .eq 7, 3) := by decide +kernel
theorem dX8_part_14 : decode cX8_part 14 = .ok (.iload_n 3, 1) := by decide +kernel
theorem dX8_part_15 : decode cX8_part 15 = .ok (.ifCond .ge 5, 3) := by decide +kernel
theorem dX8_part_18 : decode cX8_part 18 = .ok (.iconst (-1), 1) := by decide +kernel
theorem dX8_part_19 : decode cX8_part 19 = .ok (.ireturn, 1) := by decide +kernel
theorem dX8_part_20 : decode cX8_part 20 = .ok (.aload_n 0, 1) := by decide +kernel
theorem dX8_part_21 : decode cX8_part 21 = .ok (.iload_n 2, 1) := by decide +kernel
theorem dX8_part_22 : decode cX8_part 22 = .ok (.invokevirtual 131, 3) := by decide +kernel
theorem dX8_part_25 : decode cX8_part 25 = .ok (.ifCond .eq 6, 3) := by decide +kernel
theorem dX8_part_28 : decode cX8_part 28 = .ok (.bipush (-2), 2) := by decide +kernel
theorem dX8_part_30 : decode cX8_part 30 = .ok (.ireturn, 1) := by decide +kernel
theorem dX8_part_31 : decode cX8_part 31 = .ok (.aload_n 0, 1) := by decide +kernel
theorem dX8_part_32 : decode cX8_part 32 = .ok (.aload_n 0, 1) := by decide +kernel
theorem dX8_part_33 : decode cX8_part 33 = .ok (.getfield 13, 3) := by decide +kernel
theorem dX8_part_36 : decode cX8_part 36 = .ok (.iload_n 2, 1) := by decide +kernel
theorem dX8_part_37 : decode cX8_part 37 = .ok (.laload, 1) := by decide +kernel
theorem dX8_part_38 : decode cX8_part 38 = .ok (.aload_n 0, 1) := by decide +kernel
theorem dX8_part_39 : decode cX8_part 39 = .ok (.getfield 17, 3) := by decide +kernel
theorem dX8_part_42 : decode cX8_part 42 = .ok (.iload_n 2, 1) := by decide +kernel
theorem dX8_part_43 : decode cX8_part 43 = .ok (.laload, 1) := by decide +kernel
theorem dX8_part_44 : decode cX8_part 44 = .ok (.invokevirtual 195, 3) := by decide +kernel
theorem dX8_part_47 : decode cX8_part 47 = .ok (.iload_n 3, 1) := by decide +kernel
theorem dX8_part_48 : decode cX8_part 48 = .ok (.aload_n 0, 1) := by decide +kernel
theorem dX8_part_49 : decode cX8_part 49 = .ok (.getfield 178, 3) := by decide +kernel
theorem dX8_part_52 : decode cX8_part 52 = .ok (.if_icmp .le 6, 3) := by decide +kernel
theorem dX8_part_55 : decode cX8_part 55 = .ok (.bipush (-4), 2) := by decide +kernel
theorem dX8_part_57 : decode cX8_part 57 = .ok (.ireturn, 1) := by decide +kernel
theorem dX8_part_58 : decode cX8_part 58 = .ok (.aload_n 0, 1) := by decide +kernel
theorem dX8_part_59 : decode cX8_part 59 = .ok (.iload_n 3, 1) := by decide +kernel
theorem dX8_part_60 : decode cX8_part 60 = .ok (.aload_n 0, 1) := by decide +kernel
theorem dX8_part_61 : decode cX8_part 61 = .ok (.getfield 178, 3) := by decide +kernel
theorem dX8_part_64 : decode cX8_part 64 = .ok (.if_icmp .ne 10, 3) := by decide +kernel
theorem dX8_part_67 : decode cX8_part 67 = .ok (.aload_n 0, 1) := by decide +kernel
theorem dX8_part_68 : decode cX8_part 68 = .ok (.getfield 168, 3) := by decide +kernel
theorem dX8_part_71 : decode cX8_part 71 = .ok (.goto 9, 3) := by decide +kernel
theorem dX8_part_74 : decode cX8_part 74 = .ok (.aload_n 0, 1) := by decide +kernel
theorem dX8_part_75 : decode cX8_part 75 = .ok (.getfield 32, 3) := by decide +kernel
theorem dX8_part_78 : decode cX8_part 78 = .ok (.iload_n 3, 1) := by decide +kernel
theorem dX8_part_79 : decode cX8_part 79 = .ok (.laload, 1) := by decide +kernel
theorem dX8_part_80 : decode cX8_part 80 = .ok (.iload_n 3, 1) := by decide +kernel
theorem dX8_part_81 : decode cX8_part 81 = .ok (.aload_n 0, 1) := by decide +kernel
theorem dX8_part_82 : decode cX8_part 82 = .ok (.getfield 178, 3) := by decide +kernel
theorem dX8_part_85 : decode cX8_part 85 = .ok (.if_icmp .ne 10, 3) := by decide +kernel
theorem dX8_part_88 : decode cX8_part 88 = .ok (.aload_n 0, 1) := by decide +kernel
theorem dX8_part_89 : decode cX8_part 89 = .ok (.getfield 171, 3) := by decide +kernel
theorem dX8_part_92 : decode cX8_part 92 = .ok (.goto 9, 3) := by decide +kernel
theorem dX8_part_95 : decode cX8_part 95 = .ok (.aload_n 0, 1) := by decide +kernel
theorem dX8_part_96 : decode cX8_part 96 = .ok (.getfield 35, 3) := by decide +kernel
theorem dX8_part_99 : decode cX8_part 99 = .ok (.iload_n 3, 1) := by decide +kernel
theorem dX8_part_100 : decode cX8_part 100 = .ok (.laload, 1) := by decide +kernel
theorem dX8_part_101 : decode cX8_part 101 = .ok (.invokevirtual 75, 3) := by decide +kernel
theorem dX8_part_104 : decode cX8_part 104 = .ok (.aload_n 0, 1) := by decide +kernel
theorem dX8_part_105 : decode cX8_part 105 = .ok (.iload_n 1, 1) := by decide +kernel
theorem dX8_part_106 : decode cX8_part 106 = .ok (.invokevirtual 137, 3) := by decide +kernel
theorem dX8_part_109 : decode cX8_part 109 = .ok (.ireturn, 1) := by decide +kernel
theorem dX8_ofSize_0 : decode cX8_ofSize 0 = .ok (.iload_n 1, 1) := by decide +kernel
theorem dX8_ofSize_1 : decode cX8_ofSize 1 = .ok (.i2l, 1) := by decide +kernel
theorem dX8_ofSize_2 : decode cX8_ofSize 2 = .ok (.lconst 0, 1) := by decide +kernel
theorem dX8_ofSize_3 : decode cX8_ofSize 3 = .ok (.ldc2_w 198, 3) := by decide +kernel
theorem dX8_ofSize_6 : decode cX8_ofSize 6 = .ok (.invokestatic 62, 3) := by decide +kernel
theorem dX8_ofSize_9 : decode cX8_ofSize 9 = .ok (.ifCond .ne 5, 3) := by decide +kernel
theorem dX8_ofSize_12 : decode cX8_ofSize 12 = .ok (.iconst (-1), 1) := by decide +kernel
theorem dX8_ofSize_13 : decode cX8_ofSize 13 = .ok (.ireturn, 1) := by decide +kernel
theorem dX8_ofSize_14 : decode cX8_ofSize 14 = .ok (.iconst 0, 1) := by decide +kernel
theorem dX8_ofSize_15 : decode cX8_ofSize 15 = .ok (.istore_n 2, 1) := by decide +kernel
theorem dX8_ofSize_16 : decode cX8_ofSize 16 = .ok (.ldc2_w 200, 3) := by decide +kernel
theorem dX8_ofSize_19 : decode cX8_ofSize 19 = .ok (.lstore_n 3, 1) := by decide +kernel
theorem dX8_ofSize_20 : decode cX8_ofSize 20 = .ok (.lload_n 3, 1) := by decide +kernel
theorem dX8_ofSize_21 : decode cX8_ofSize 21 = .ok (.ldc2_w 202, 3) := by decide +kernel
theorem dX8_ofSize_24 : decode cX8_ofSize 24 = .ok (.lcmp, 1) := by decide +kernel
theorem dX8_ofSize_25 : decode cX8_ofSize 25 = .ok (.ifCond .gt 99, 3) := by decide +kernel
theorem dX8_ofSize_28 : decode cX8_ofSize 28 = .ok (.ldc2_w 83, 3) := by decide +kernel
theorem dX8_ofSize_31 : decode cX8_ofSize 31 = .ok (.iload_n 1, 1) := by decide +kernel
theorem dX8_ofSize_32 : decode cX8_ofSize 32 = .ok (.i2l, 1) := by decide +kernel
theorem dX8_ofSize_33 : decode cX8_ofSize 33 = .ok (.lmul, 1) := by decide +kernel
theorem dX8_ofSize_34 : decode cX8_ofSize 34 = .ok (.ldc2_w 83, 3) := by decide +kernel
theorem dX8_ofSize_37 : decode cX8_ofSize 37 = .ok (.aload_n 0, 1) := by decide +kernel
theorem dX8_ofSize_38 : decode cX8_ofSize 38 = .ok (.getfield 7, 3) := by decide +kernel
theorem dX8_ofSize_41 : decode cX8_ofSize 41 = .ok (.lmul, 1) := by decide +kernel
theorem dX8_ofSize_42 : decode cX8_ofSize 42 = .ok (.aload_n 0, 1) := by decide +kernel
theorem dX8_ofSize_43 : decode cX8_ofSize 43 = .ok (.getfield 66, 3) := by decide +kernel
theorem dX8_ofSize_46 : decode cX8_ofSize 46 = .ok (.aload_n 0, 1) := by decide +kernel
theorem dX8_ofSize_47 : decode cX8_ofSize 47 = .ok (.getfield 66, 3) := by decide +kernel
theorem dX8_ofSize_50 : decode cX8_ofSize 50 = .ok (.lmul, 1) := by decide +kernel
theorem dX8_ofSize_51 : decode cX8_ofSize 51 = .ok (.lsub, 1) := by decide +kernel
theorem dX8_ofSize_52 : decode cX8_ofSize 52 = .ok (.lload_n 3, 1) := by decide +kernel
theorem dX8_ofSize_53 : decode cX8_ofSize 53 = .ok (.lmul, 1) := by decide +kernel
theorem dX8_ofSize_54 : decode cX8_ofSize 54 = .ok (.lload_n 3, 1) := by decide +kernel
theorem dX8_ofSize_55 : decode cX8_ofSize 55 = .ok (.lmul, 1) := by decide +kernel
theorem dX8_ofSize_56 : decode cX8_ofSize 56 = .ok (.lsub, 1) := by decide +kernel
theorem dX8_ofSize_57 : decode cX8_ofSize 57 = .ok (.lstore 5, 2) := by decide +kernel
theorem dX8_ofSize_59 : decode cX8_ofSize 59 = .ok (.lload 5, 2) := by decide +kernel
theorem dX8_ofSize_61 : decode cX8_ofSize 61 = .ok (.invokestatic 164, 3) := by decide +kernel
theorem dX8_ofSize_64 : decode cX8_ofSize 64 = .ok (.lstore 7, 2) := by decide +kernel
theorem dX8_ofSize_66 : decode cX8_ofSize 66 = .ok (.lload 5, 2) := by decide +kernel
theorem dX8_ofSize_68 : decode cX8_ofSize 68 = .ok (.lconst 0, 1) := by decide +kernel
theorem dX8_ofSize_69 : decode cX8_ofSize 69 = .ok (.lcmp, 1) := by decide +kernel
theorem dX8_ofSize_70 : decode cX8_ofSize 70 = .ok (.ifCond .lt 47, 3) := by decide +kernel
theorem dX8_ofSize_73 : decode cX8_ofSize 73 = .ok (.lload 7, 2) := by decide +kernel
theorem dX8_ofSize_75 : decode cX8_ofSize 75 = .ok (.lload 7, 2) := by decide +kernel
theorem dX8_ofSize_77 : decode cX8_ofSize 77 = .ok (.lmul, 1) := by decide +kernel
theorem dX8_ofSize_78 : decode cX8_ofSize 78 = .ok (.lload 5, 2) := by decide +kernel
theorem dX8_ofSize_80 : decode cX8_ofSize 80 = .ok (.lcmp, 1) := by decide +kernel
theorem dX8_ofSize_81 : decode cX8_ofSize 81 = .ok (.ifCond .ne 36, 3) := by decide +kernel
theorem dX8_ofSize_84 : decode cX8_ofSize 84 = .ok (.lload 7, 2) := by decide +kernel
theorem dX8_ofSize_86 : decode cX8_ofSize 86 = .ok (.aload_n 0, 1) := by decide +kernel
theorem dX8_ofSize_87 : decode cX8_ofSize 87 = .ok (.getfield 66, 3) := by decide +kernel
theorem dX8_ofSize_90 : decode cX8_ofSize 90 = .ok (.lload_n 3, 1) := by decide +kernel
theorem dX8_ofSize_91 : decode cX8_ofSize 91 = .ok (.lmul, 1) := by decide +kernel
theorem dX8_ofSize_92 : decode cX8_ofSize 92 = .ok (.lsub, 1) := by decide +kernel
theorem dX8_ofSize_93 : decode cX8_ofSize 93 = .ok (.ldc2_w 85, 3) := by decide +kernel
theorem dX8_ofSize_96 : decode cX8_ofSize 96 = .ok (.lrem, 1) := by decide +kernel
theorem dX8_ofSize_97 : decode cX8_ofSize 97 = .ok (.lconst 0, 1) := by decide +kernel
theorem dX8_ofSize_98 : decode cX8_ofSize 98 = .ok (.lcmp, 1) := by decide +kernel
theorem dX8_ofSize_99 : decode cX8_ofSize 99 = .ok (.ifCond .ne 18, 3) := by decide +kernel
theorem dX8_ofSize_102 : decode cX8_ofSize 102 = .ok (.iload_n 2, 1) := by decide +kernel
theorem dX8_ofSize_103 : decode cX8_ofSize 103 = .ok (.lload 7, 2) := by decide +kernel
theorem dX8_ofSize_105 : decode cX8_ofSize 105 = .ok (.lconst 0, 1) := by decide +kernel
theorem dX8_ofSize_106 : decode cX8_ofSize 106 = .ok (.lcmp, 1) := by decide +kernel
theorem dX8_ofSize_107 : decode cX8_ofSize 107 = .ok (.ifCond .ne 7, 3) := by decide +kernel
theorem dX8_ofSize_110 : decode cX8_ofSize 110 = .ok (.iconst 1, 1) := by decide +kernel
theorem dX8_ofSize_111 : decode cX8_ofSize 111 = .ok (.goto 4, 3) := by decide +kernel
theorem dX8_ofSize_114 : decode cX8_ofSize 114 = .ok (.iconst 2, 1) := by decide +kernel
theorem dX8_ofSize_115 : decode cX8_ofSize 115 = .ok (.iadd, 1) := by decide +kernel
theorem dX8_ofSize_116 : decode cX8_ofSize 116 = .ok (.istore_n 2, 1) := by decide +kernel
theorem dX8_ofSize_117 : decode cX8_ofSize 117 = .ok (.lload_n 3, 1) := by decide +kernel
theorem dX8_ofSize_118 : decode cX8_ofSize 118 = .ok (.lconst 1, 1) := by decide +kernel
theorem dX8_ofSize_119 : decode cX8_ofSize 119 = .ok (.ladd, 1) := by decide +kernel
theorem dX8_ofSize_120 : decode cX8_ofSize 120 = .ok (.lstore_n 3, 1) := by decide +kernel
theorem dX8_ofSize_121 : decode cX8_ofSize 121 = .ok (.goto (-101), 3) := by decide +kernel
theorem dX8_ofSize_124 : decode cX8_ofSize 124 = .ok (.iload_n 2, 1) := by decide +kernel
theorem dX8_ofSize_125 : decode cX8_ofSize 125 = .ok (.ireturn, 1) := by decide +kernel
theorem dX8_within_0 : decode cX8_within 0 = .ok (.iload_n 1, 1) := by decide +kernel
theorem dX8_within_1 : decode cX8_within 1 = .ok (.i2l, 1) := by decide +kernel
theorem dX8_within_2 : decode cX8_within 2 = .ok (.lconst 0, 1) := by decide +kernel
theorem dX8_within_3 : decode cX8_within 3 = .ok (.ldc2_w 204, 3) := by decide +kernel
theorem dX8_within_6 : decode cX8_within 6 = .ok (.invokestatic 62, 3) := by decide +kernel
theorem dX8_within_9 : decode cX8_within 9 = .ok (.ifCond .ne 5, 3) := by decide +kernel
theorem dX8_within_12 : decode cX8_within 12 = .ok (.iconst (-1), 1) := by decide +kernel
theorem dX8_within_13 : decode cX8_within 13 = .ok (.ireturn, 1) := by decide +kernel
theorem dX8_within_14 : decode cX8_within 14 = .ok (.iconst 0, 1) := by decide +kernel
theorem dX8_within_15 : decode cX8_within 15 = .ok (.istore_n 2, 1) := by decide +kernel
theorem dX8_within_16 : decode cX8_within 16 = .ok (.ldc2_w 206, 3) := by decide +kernel
theorem dX8_within_19 : decode cX8_within 19 = .ok (.lstore_n 3, 1) := by decide +kernel
theorem dX8_within_20 : decode cX8_within 20 = .ok (.lload_n 3, 1) := by decide +kernel
theorem dX8_within_21 : decode cX8_within 21 = .ok (.ldc2_w 208, 3) := by decide +kernel
theorem dX8_within_24 : decode cX8_within 24 = .ok (.lcmp, 1) := by decide +kernel
theorem dX8_within_25 : decode cX8_within 25 = .ok (.ifCond .gt 92, 3) := by decide +kernel
theorem dX8_within_28 : decode cX8_within 28 = .ok (.ldc2_w 83, 3) := by decide +kernel
theorem dX8_within_31 : decode cX8_within 31 = .ok (.iload_n 1, 1) := by decide +kernel
theorem dX8_within_32 : decode cX8_within 32 = .ok (.i2l, 1) := by decide +kernel
theorem dX8_within_33 : decode cX8_within 33 = .ok (.lmul, 1) := by decide +kernel
theorem dX8_within_34 : decode cX8_within 34 = .ok (.ldc2_w 83, 3) := by decide +kernel
theorem dX8_within_37 : decode cX8_within 37 = .ok (.aload_n 0, 1) := by decide +kernel
theorem dX8_within_38 : decode cX8_within 38 = .ok (.getfield 7, 3) := by decide +kernel
theorem dX8_within_41 : decode cX8_within 41 = .ok (.lmul, 1) := by decide +kernel
theorem dX8_within_42 : decode cX8_within 42 = .ok (.aload_n 0, 1) := by decide +kernel
theorem dX8_within_43 : decode cX8_within 43 = .ok (.getfield 66, 3) := by decide +kernel
theorem dX8_within_46 : decode cX8_within 46 = .ok (.aload_n 0, 1) := by decide +kernel
theorem dX8_within_47 : decode cX8_within 47 = .ok (.getfield 66, 3) := by decide +kernel
theorem dX8_within_50 : decode cX8_within 50 = .ok (.lmul, 1) := by decide +kernel
theorem dX8_within_51 : decode cX8_within 51 = .ok (.lsub, 1) := by decide +kernel
theorem dX8_within_52 : decode cX8_within 52 = .ok (.lload_n 3, 1) := by decide +kernel
theorem dX8_within_53 : decode cX8_within 53 = .ok (.lmul, 1) := by decide +kernel
theorem dX8_within_54 : decode cX8_within 54 = .ok (.lload_n 3, 1) := by decide +kernel
theorem dX8_within_55 : decode cX8_within 55 = .ok (.lmul, 1) := by decide +kernel
theorem dX8_within_56 : decode cX8_within 56 = .ok (.lsub, 1) := by decide +kernel
theorem dX8_within_57 : decode cX8_within 57 = .ok (.lstore 5, 2) := by decide +kernel
theorem dX8_within_59 : decode cX8_within 59 = .ok (.lload 5, 2) := by decide +kernel
theorem dX8_within_61 : decode cX8_within 61 = .ok (.lconst 0, 1) := by decide +kernel
theorem dX8_within_62 : decode cX8_within 62 = .ok (.lcmp, 1) := by decide +kernel
theorem dX8_within_63 : decode cX8_within 63 = .ok (.ifCond .lt 47, 3) := by decide +kernel
theorem dX8_within_66 : decode cX8_within 66 = .ok (.lload 5, 2) := by decide +kernel
theorem dX8_within_68 : decode cX8_within 68 = .ok (.invokestatic 164, 3) := by decide +kernel
theorem dX8_within_71 : decode cX8_within 71 = .ok (.lstore 7, 2) := by decide +kernel
theorem dX8_within_73 : decode cX8_within 73 = .ok (.iload_n 2, 1) := by decide +kernel
theorem dX8_within_74 : decode cX8_within 74 = .ok (.lload 7, 2) := by decide +kernel
theorem dX8_within_76 : decode cX8_within 76 = .ok (.aload_n 0, 1) := by decide +kernel
theorem dX8_within_77 : decode cX8_within 77 = .ok (.getfield 66, 3) := by decide +kernel
theorem dX8_within_80 : decode cX8_within 80 = .ok (.lload_n 3, 1) := by decide +kernel
theorem dX8_within_81 : decode cX8_within 81 = .ok (.lmul, 1) := by decide +kernel
theorem dX8_within_82 : decode cX8_within 82 = .ok (.lsub, 1) := by decide +kernel
theorem dX8_within_83 : decode cX8_within 83 = .ok (.ldc2_w 85, 3) := by decide +kernel
theorem dX8_within_86 : decode cX8_within 86 = .ok (.invokestatic 105, 3) := by decide +kernel
theorem dX8_within_89 : decode cX8_within 89 = .ok (.lload 7, 2) := by decide +kernel
theorem dX8_within_91 : decode cX8_within 91 = .ok (.aload_n 0, 1) := by decide +kernel
theorem dX8_within_92 : decode cX8_within 92 = .ok (.getfield 66, 3) := by decide +kernel
theorem dX8_within_95 : decode cX8_within 95 = .ok (.lload_n 3, 1) := by decide +kernel
theorem dX8_within_96 : decode cX8_within 96 = .ok (.lmul, 1) := by decide +kernel
theorem dX8_within_97 : decode cX8_within 97 = .ok (.ladd, 1) := by decide +kernel
theorem dX8_within_98 : decode cX8_within 98 = .ok (.ldc2_w 85, 3) := by decide +kernel
theorem dX8_within_101 : decode cX8_within 101 = .ok (.invokestatic 105, 3) := by decide +kernel
theorem dX8_within_104 : decode cX8_within 104 = .ok (.ladd, 1) := by decide +kernel
theorem dX8_within_105 : decode cX8_within 105 = .ok (.lconst 1, 1) := by decide +kernel
theorem dX8_within_106 : decode cX8_within 106 = .ok (.ladd, 1) := by decide +kernel
theorem dX8_within_107 : decode cX8_within 107 = .ok (.l2i, 1) := by decide +kernel
theorem dX8_within_108 : decode cX8_within 108 = .ok (.iadd, 1) := by decide +kernel
theorem dX8_within_109 : decode cX8_within 109 = .ok (.istore_n 2, 1) := by decide +kernel
theorem dX8_within_110 : decode cX8_within 110 = .ok (.lload_n 3, 1) := by decide +kernel
theorem dX8_within_111 : decode cX8_within 111 = .ok (.lconst 1, 1) := by decide +kernel
theorem dX8_within_112 : decode cX8_within 112 = .ok (.ladd, 1) := by decide +kernel
theorem dX8_within_113 : decode cX8_within 113 = .ok (.lstore_n 3, 1) := by decide +kernel
theorem dX8_within_114 : decode cX8_within 114 = .ok (.goto (-94), 3) := by decide +kernel
theorem dX8_within_117 : decode cX8_within 117 = .ok (.iload_n 2, 1) := by decide +kernel
theorem dX8_within_118 : decode cX8_within 118 = .ok (.ireturn, 1) := by decide +kernel
theorem dX8_isModulus_0 : decode cX8_isModulus 0 = .ok (.aload_n 0, 1) := by decide +kernel
theorem dX8_isModulus_1 : decode cX8_isModulus 1 = .ok (.aload_n 0, 1) := by decide +kernel
theorem dX8_isModulus_2 : decode cX8_isModulus 2 = .ok (.getfield 13, 3) := by decide +kernel
theorem dX8_isModulus_5 : decode cX8_isModulus 5 = .ok (.iload_n 1, 1) := by decide +kernel
theorem dX8_isModulus_6 : decode cX8_isModulus 6 = .ok (.laload, 1) := by decide +kernel
theorem dX8_isModulus_7 : decode cX8_isModulus 7 = .ok (.aload_n 0, 1) := by decide +kernel
theorem dX8_isModulus_8 : decode cX8_isModulus 8 = .ok (.getfield 17, 3) := by decide +kernel
theorem dX8_isModulus_11 : decode cX8_isModulus 11 = .ok (.iload_n 1, 1) := by decide +kernel
theorem dX8_isModulus_12 : decode cX8_isModulus 12 = .ok (.laload, 1) := by decide +kernel
theorem dX8_isModulus_13 : decode cX8_isModulus 13 = .ok (.invokevirtual 79, 3) := by decide +kernel
theorem dX8_isModulus_16 : decode cX8_isModulus 16 = .ok (.ldc2_w 85, 3) := by decide +kernel
theorem dX8_isModulus_19 : decode cX8_isModulus 19 = .ok (.lload_n 2, 1) := by decide +kernel
theorem dX8_isModulus_20 : decode cX8_isModulus 20 = .ok (.invokestatic 62, 3) := by decide +kernel
theorem dX8_isModulus_23 : decode cX8_isModulus 23 = .ok (.ireturn, 1) := by decide +kernel
theorem dX8_reduce_0 : decode cX8_reduce 0 = .ok (.aload_n 0, 1) := by decide +kernel
theorem dX8_reduce_1 : decode cX8_reduce 1 = .ok (.aload_n 0, 1) := by decide +kernel
theorem dX8_reduce_2 : decode cX8_reduce 2 = .ok (.getfield 69, 3) := by decide +kernel
theorem dX8_reduce_5 : decode cX8_reduce 5 = .ok (.aload_n 0, 1) := by decide +kernel
theorem dX8_reduce_6 : decode cX8_reduce 6 = .ok (.getfield 72, 3) := by decide +kernel
theorem dX8_reduce_9 : decode cX8_reduce 9 = .ok (.aload_n 0, 1) := by decide +kernel
theorem dX8_reduce_10 : decode cX8_reduce 10 = .ok (.getfield 13, 3) := by decide +kernel
theorem dX8_reduce_13 : decode cX8_reduce 13 = .ok (.iload_n 1, 1) := by decide +kernel
theorem dX8_reduce_14 : decode cX8_reduce 14 = .ok (.laload, 1) := by decide +kernel
theorem dX8_reduce_15 : decode cX8_reduce 15 = .ok (.aload_n 0, 1) := by decide +kernel
theorem dX8_reduce_16 : decode cX8_reduce 16 = .ok (.getfield 17, 3) := by decide +kernel
theorem dX8_reduce_19 : decode cX8_reduce 19 = .ok (.iload_n 1, 1) := by decide +kernel
theorem dX8_reduce_20 : decode cX8_reduce 20 = .ok (.laload, 1) := by decide +kernel
theorem dX8_reduce_21 : decode cX8_reduce 21 = .ok (.invokevirtual 123, 3) := by decide +kernel
theorem dX8_reduce_24 : decode cX8_reduce 24 = .ok (.return_, 1) := by decide +kernel
theorem dX8_restOfOne_0 : decode cX8_restOfOne 0 = .ok (.aload_n 0, 1) := by decide +kernel
theorem dX8_restOfOne_1 : decode cX8_restOfOne 1 = .ok (.lconst 1, 1) := by decide +kernel
theorem dX8_restOfOne_2 : decode cX8_restOfOne 2 = .ok (.lconst 0, 1) := by decide +kernel
theorem dX8_restOfOne_3 : decode cX8_restOfOne 3 = .ok (.invokevirtual 75, 3) := by decide +kernel
theorem dX8_restOfOne_6 : decode cX8_restOfOne 6 = .ok (.aload_n 0, 1) := by decide +kernel
theorem dX8_restOfOne_7 : decode cX8_restOfOne 7 = .ok (.iload_n 1, 1) := by decide +kernel
theorem dX8_restOfOne_8 : decode cX8_restOfOne 8 = .ok (.invokevirtual 210, 3) := by decide +kernel
theorem dX8_restOfOne_11 : decode cX8_restOfOne 11 = .ok (.return_, 1) := by decide +kernel
theorem dX8_power_0 : decode cX8_power 0 = .ok (.iload_n 1, 1) := by decide +kernel
theorem dX8_power_1 : decode cX8_power 1 = .ok (.invokestatic 92, 3) := by decide +kernel
theorem dX8_power_4 : decode cX8_power 4 = .ok (.ifCond .eq 30, 3) := by decide +kernel
theorem dX8_power_7 : decode cX8_power 7 = .ok (.iload_n 2, 1) := by decide +kernel
theorem dX8_power_8 : decode cX8_power 8 = .ok (.invokestatic 92, 3) := by decide +kernel
theorem dX8_power_11 : decode cX8_power 11 = .ok (.ifCond .eq 23, 3) := by decide +kernel
theorem dX8_power_14 : decode cX8_power 14 = .ok (.iload_n 3, 1) := by decide +kernel
theorem dX8_power_15 : decode cX8_power 15 = .ok (.i2l, 1) := by decide +kernel
theorem dX8_power_16 : decode cX8_power 16 = .ok (.lconst 0, 1) := by decide +kernel
theorem dX8_power_17 : decode cX8_power 17 = .ok (.ldc2_w 214, 3) := by decide +kernel
theorem dX8_power_20 : decode cX8_power 20 = .ok (.invokestatic 62, 3) := by decide +kernel
theorem dX8_power_23 : decode cX8_power 23 = .ok (.ifCond .eq 11, 3) := by decide +kernel
theorem dX8_power_26 : decode cX8_power 26 = .ok (.iload 4, 2) := by decide +kernel
theorem dX8_power_28 : decode cX8_power 28 = .ok (.invokestatic 92, 3) := by decide +kernel
theorem dX8_power_31 : decode cX8_power 31 = .ok (.ifCond .ne 5, 3) := by decide +kernel
theorem dX8_power_34 : decode cX8_power 34 = .ok (.iconst (-1), 1) := by decide +kernel
theorem dX8_power_35 : decode cX8_power 35 = .ok (.ireturn, 1) := by decide +kernel
theorem dX8_power_36 : decode cX8_power 36 = .ok (.aload_n 0, 1) := by decide +kernel
theorem dX8_power_37 : decode cX8_power 37 = .ok (.iload 4, 2) := by decide +kernel
theorem dX8_power_39 : decode cX8_power 39 = .ok (.ldc2_w 198, 3) := by decide +kernel
theorem dX8_power_42 : decode cX8_power 42 = .ok (.invokevirtual 216, 3) := by decide +kernel
theorem dX8_power_45 : decode cX8_power 45 = .ok (.ifCond .ne 6, 3) := by decide +kernel
theorem dX8_power_48 : decode cX8_power 48 = .ok (.bipush (-2), 2) := by decide +kernel
theorem dX8_power_50 : decode cX8_power 50 = .ok (.ireturn, 1) := by decide +kernel
theorem dX8_power_51 : decode cX8_power 51 = .ok (.aload_n 0, 1) := by decide +kernel
theorem dX8_power_52 : decode cX8_power 52 = .ok (.iload 4, 2) := by decide +kernel
theorem dX8_power_54 : decode cX8_power 54 = .ok (.invokevirtual 220, 3) := by decide +kernel
theorem dX8_power_57 : decode cX8_power 57 = .ok (.aload_n 0, 1) := by decide +kernel
theorem dX8_power_58 : decode cX8_power 58 = .ok (.getfield 69, 3) := by decide +kernel
theorem dX8_power_61 : decode cX8_power 61 = .ok (.lstore 5, 2) := by decide +kernel
theorem dX8_power_63 : decode cX8_power 63 = .ok (.aload_n 0, 1) := by decide +kernel
theorem dX8_power_64 : decode cX8_power 64 = .ok (.getfield 72, 3) := by decide +kernel
theorem dX8_power_67 : decode cX8_power 67 = .ok (.lstore 7, 2) := by decide +kernel
theorem dX8_power_69 : decode cX8_power 69 = .ok (.aload_n 0, 1) := by decide +kernel
theorem dX8_power_70 : decode cX8_power 70 = .ok (.aload_n 0, 1) := by decide +kernel
theorem dX8_power_71 : decode cX8_power 71 = .ok (.getfield 13, 3) := by decide +kernel
theorem dX8_power_74 : decode cX8_power 74 = .ok (.iload_n 2, 1) := by decide +kernel
theorem dX8_power_75 : decode cX8_power 75 = .ok (.laload, 1) := by decide +kernel
theorem dX8_power_76 : decode cX8_power 76 = .ok (.aload_n 0, 1) := by decide +kernel
theorem dX8_power_77 : decode cX8_power 77 = .ok (.getfield 17, 3) := by decide +kernel
theorem dX8_power_80 : decode cX8_power 80 = .ok (.iload_n 2, 1) := by decide +kernel
theorem dX8_power_81 : decode cX8_power 81 = .ok (.laload, 1) := by decide +kernel
theorem dX8_power_82 : decode cX8_power 82 = .ok (.invokevirtual 75, 3) := by decide +kernel
theorem dX8_power_85 : decode cX8_power 85 = .ok (.aload_n 0, 1) := by decide +kernel
theorem dX8_power_86 : decode cX8_power 86 = .ok (.iload 4, 2) := by decide +kernel
theorem dX8_power_88 : decode cX8_power 88 = .ok (.invokevirtual 210, 3) := by decide +kernel
theorem dX8_power_91 : decode cX8_power 91 = .ok (.aload_n 0, 1) := by decide +kernel
theorem dX8_power_92 : decode cX8_power 92 = .ok (.getfield 69, 3) := by decide +kernel
theorem dX8_power_95 : decode cX8_power 95 = .ok (.lstore 9, 2) := by decide +kernel
theorem dX8_power_97 : decode cX8_power 97 = .ok (.aload_n 0, 1) := by decide +kernel
theorem dX8_power_98 : decode cX8_power 98 = .ok (.getfield 72, 3) := by decide +kernel
theorem dX8_power_101 : decode cX8_power 101 = .ok (.lstore 11, 2) := by decide +kernel
theorem dX8_power_103 : decode cX8_power 103 = .ok (.iload_n 3, 1) := by decide +kernel
theorem dX8_power_104 : decode cX8_power 104 = .ok (.istore 13, 2) := by decide +kernel
theorem dX8_power_106 : decode cX8_power 106 = .ok (.iload 13, 2) := by decide +kernel
theorem dX8_power_108 : decode cX8_power 108 = .ok (.ifCond .le 80, 3) := by decide +kernel
theorem dX8_power_111 : decode cX8_power 111 = .ok (.iload 13, 2) := by decide +kernel
theorem dX8_power_113 : decode cX8_power 113 = .ok (.iconst 2, 1) := by decide +kernel
theorem dX8_power_114 : decode cX8_power 114 = .ok (.irem, 1) := by decide +kernel
theorem dX8_power_115 : decode cX8_power 115 = .ok (.iconst 1, 1) := by decide +kernel
theorem dX8_power_116 : decode cX8_power 116 = .ok (.if_icmp .ne 33, 3) := by decide +kernel
theorem dX8_power_119 : decode cX8_power 119 = .ok (.aload_n 0, 1) := by decide +kernel
theorem dX8_power_120 : decode cX8_power 120 = .ok (.lload 5, 2) := by decide +kernel
theorem dX8_power_122 : decode cX8_power 122 = .ok (.lload 7, 2) := by decide +kernel
theorem dX8_power_124 : decode cX8_power 124 = .ok (.lload 9, 2) := by decide +kernel
theorem dX8_power_126 : decode cX8_power 126 = .ok (.lload 11, 2) := by decide +kernel
theorem dX8_power_128 : decode cX8_power 128 = .ok (.invokevirtual 108, 3) := by decide +kernel
theorem dX8_power_131 : decode cX8_power 131 = .ok (.aload_n 0, 1) := by decide +kernel
theorem dX8_power_132 : decode cX8_power 132 = .ok (.iload 4, 2) := by decide +kernel
theorem dX8_power_134 : decode cX8_power 134 = .ok (.invokevirtual 210, 3) := by decide +kernel
theorem dX8_power_137 : decode cX8_power 137 = .ok (.aload_n 0, 1) := by decide +kernel
theorem dX8_power_138 : decode cX8_power 138 = .ok (.getfield 69, 3) := by decide +kernel
theorem dX8_power_141 : decode cX8_power 141 = .ok (.lstore 5, 2) := by decide +kernel
theorem dX8_power_143 : decode cX8_power 143 = .ok (.aload_n 0, 1) := by decide +kernel
theorem dX8_power_144 : decode cX8_power 144 = .ok (.getfield 72, 3) := by decide +kernel
theorem dX8_power_147 : decode cX8_power 147 = .ok (.lstore 7, 2) := by decide +kernel
theorem dX8_power_149 : decode cX8_power 149 = .ok (.aload_n 0, 1) := by decide +kernel
theorem dX8_power_150 : decode cX8_power 150 = .ok (.lload 9, 2) := by decide +kernel
theorem dX8_power_152 : decode cX8_power 152 = .ok (.lload 11, 2) := by decide +kernel
theorem dX8_power_154 : decode cX8_power 154 = .ok (.lload 9, 2) := by decide +kernel
theorem dX8_power_156 : decode cX8_power 156 = .ok (.lload 11, 2) := by decide +kernel
theorem dX8_power_158 : decode cX8_power 158 = .ok (.invokevirtual 108, 3) := by decide +kernel
theorem dX8_power_161 : decode cX8_power 161 = .ok (.aload_n 0, 1) := by decide +kernel
theorem dX8_power_162 : decode cX8_power 162 = .ok (.iload 4, 2) := by decide +kernel
theorem dX8_power_164 : decode cX8_power 164 = .ok (.invokevirtual 210, 3) := by decide +kernel
theorem dX8_power_167 : decode cX8_power 167 = .ok (.aload_n 0, 1) := by decide +kernel
theorem dX8_power_168 : decode cX8_power 168 = .ok (.getfield 69, 3) := by decide +kernel
theorem dX8_power_171 : decode cX8_power 171 = .ok (.lstore 9, 2) := by decide +kernel
theorem dX8_power_173 : decode cX8_power 173 = .ok (.aload_n 0, 1) := by decide +kernel
theorem dX8_power_174 : decode cX8_power 174 = .ok (.getfield 72, 3) := by decide +kernel
theorem dX8_power_177 : decode cX8_power 177 = .ok (.lstore 11, 2) := by decide +kernel
theorem dX8_power_179 : decode cX8_power 179 = .ok (.iload 13, 2) := by decide +kernel
theorem dX8_power_181 : decode cX8_power 181 = .ok (.iconst 2, 1) := by decide +kernel
theorem dX8_power_182 : decode cX8_power 182 = .ok (.idiv, 1) := by decide +kernel
theorem dX8_power_183 : decode cX8_power 183 = .ok (.istore 13, 2) := by decide +kernel
theorem dX8_power_185 : decode cX8_power 185 = .ok (.goto (-79), 3) := by decide +kernel
theorem dX8_power_188 : decode cX8_power 188 = .ok (.aload_n 0, 1) := by decide +kernel
theorem dX8_power_189 : decode cX8_power 189 = .ok (.lload 5, 2) := by decide +kernel
theorem dX8_power_191 : decode cX8_power 191 = .ok (.lload 7, 2) := by decide +kernel
theorem dX8_power_193 : decode cX8_power 193 = .ok (.invokevirtual 75, 3) := by decide +kernel
theorem dX8_power_196 : decode cX8_power 196 = .ok (.aload_n 0, 1) := by decide +kernel
theorem dX8_power_197 : decode cX8_power 197 = .ok (.iload_n 1, 1) := by decide +kernel
theorem dX8_power_198 : decode cX8_power 198 = .ok (.invokevirtual 137, 3) := by decide +kernel
theorem dX8_power_201 : decode cX8_power 201 = .ok (.ireturn, 1) := by decide +kernel
theorem dX8_isFree_0 : decode cX8_isFree 0 = .ok (.aload_n 0, 1) := by decide +kernel
theorem dX8_isFree_1 : decode cX8_isFree 1 = .ok (.aload_n 0, 1) := by decide +kernel
theorem dX8_isFree_2 : decode cX8_isFree 2 = .ok (.getfield 13, 3) := by decide +kernel
theorem dX8_isFree_5 : decode cX8_isFree 5 = .ok (.iload_n 1, 1) := by decide +kernel
theorem dX8_isFree_6 : decode cX8_isFree 6 = .ok (.laload, 1) := by decide +kernel
theorem dX8_isFree_7 : decode cX8_isFree 7 = .ok (.aload_n 0, 1) := by decide +kernel
theorem dX8_isFree_8 : decode cX8_isFree 8 = .ok (.getfield 17, 3) := by decide +kernel
theorem dX8_isFree_11 : decode cX8_isFree 11 = .ok (.iload_n 1, 1) := by decide +kernel
theorem dX8_isFree_12 : decode cX8_isFree 12 = .ok (.laload, 1) := by decide +kernel
theorem dX8_isFree_13 : decode cX8_isFree 13 = .ok (.aload_n 0, 1) := by decide +kernel
theorem dX8_isFree_14 : decode cX8_isFree 14 = .ok (.getfield 13, 3) := by decide +kernel
theorem dX8_isFree_17 : decode cX8_isFree 17 = .ok (.iload_n 2, 1) := by decide +kernel
theorem dX8_isFree_18 : decode cX8_isFree 18 = .ok (.laload, 1) := by decide +kernel
theorem dX8_isFree_19 : decode cX8_isFree 19 = .ok (.aload_n 0, 1) := by decide +kernel
theorem dX8_isFree_20 : decode cX8_isFree 20 = .ok (.getfield 17, 3) := by decide +kernel
theorem dX8_isFree_23 : decode cX8_isFree 23 = .ok (.iload_n 2, 1) := by decide +kernel
theorem dX8_isFree_24 : decode cX8_isFree 24 = .ok (.laload, 1) := by decide +kernel
theorem dX8_isFree_25 : decode cX8_isFree 25 = .ok (.invokevirtual 134, 3) := by decide +kernel
theorem dX8_isFree_28 : decode cX8_isFree 28 = .ok (.aload_n 0, 1) := by decide +kernel
theorem dX8_isFree_29 : decode cX8_isFree 29 = .ok (.aload_n 0, 1) := by decide +kernel
theorem dX8_isFree_30 : decode cX8_isFree 30 = .ok (.getfield 69, 3) := by decide +kernel
theorem dX8_isFree_33 : decode cX8_isFree 33 = .ok (.aload_n 0, 1) := by decide +kernel
theorem dX8_isFree_34 : decode cX8_isFree 34 = .ok (.getfield 72, 3) := by decide +kernel
theorem dX8_isFree_37 : decode cX8_isFree 37 = .ok (.invokevirtual 79, 3) := by decide +kernel
theorem dX8_isFree_40 : decode cX8_isFree 40 = .ok (.lconst 1, 1) := by decide +kernel
theorem dX8_isFree_41 : decode cX8_isFree 41 = .ok (.lcmp, 1) := by decide +kernel
theorem dX8_isFree_42 : decode cX8_isFree 42 = .ok (.ifCond .ne 7, 3) := by decide +kernel
theorem dX8_isFree_45 : decode cX8_isFree 45 = .ok (.iconst 1, 1) := by decide +kernel
theorem dX8_isFree_46 : decode cX8_isFree 46 = .ok (.goto 4, 3) := by decide +kernel
theorem dX8_isFree_49 : decode cX8_isFree 49 = .ok (.iconst 0, 1) := by decide +kernel
theorem dX8_isFree_50 : decode cX8_isFree 50 = .ok (.ireturn, 1) := by decide +kernel
theorem dX8_order_0 : decode cX8_order 0 = .ok (.iload_n 1, 1) := by decide +kernel
theorem dX8_order_1 : decode cX8_order 1 = .ok (.invokestatic 92, 3) := by decide +kernel
theorem dX8_order_4 : decode cX8_order 4 = .ok (.ifCond .eq 10, 3) := by decide +kernel
theorem dX8_order_7 : decode cX8_order 7 = .ok (.iload_n 2, 1) := by decide +kernel
theorem dX8_order_8 : decode cX8_order 8 = .ok (.invokestatic 92, 3) := by decide +kernel
theorem dX8_order_11 : decode cX8_order 11 = .ok (.ifCond .ne 5, 3) := by decide +kernel
theorem dX8_order_14 : decode cX8_order 14 = .ok (.iconst (-1), 1) := by decide +kernel
theorem dX8_order_15 : decode cX8_order 15 = .ok (.ireturn, 1) := by decide +kernel
theorem dX8_order_16 : decode cX8_order 16 = .ok (.aload_n 0, 1) := by decide +kernel
theorem dX8_order_17 : decode cX8_order 17 = .ok (.iload_n 2, 1) := by decide +kernel
theorem dX8_order_18 : decode cX8_order 18 = .ok (.ldc2_w 198, 3) := by decide +kernel
theorem dX8_order_21 : decode cX8_order 21 = .ok (.invokevirtual 216, 3) := by decide +kernel
theorem dX8_order_24 : decode cX8_order 24 = .ok (.ifCond .ne 6, 3) := by decide +kernel
theorem dX8_order_27 : decode cX8_order 27 = .ok (.bipush (-2), 2) := by decide +kernel
theorem dX8_order_29 : decode cX8_order 29 = .ok (.ireturn, 1) := by decide +kernel
theorem dX8_order_30 : decode cX8_order 30 = .ok (.aload_n 0, 1) := by decide +kernel
theorem dX8_order_31 : decode cX8_order 31 = .ok (.iload_n 1, 1) := by decide +kernel
theorem dX8_order_32 : decode cX8_order 32 = .ok (.iload_n 2, 1) := by decide +kernel
theorem dX8_order_33 : decode cX8_order 33 = .ok (.invokevirtual 223, 3) := by decide +kernel
theorem dX8_order_36 : decode cX8_order 36 = .ok (.ifCond .ne 6, 3) := by decide +kernel
theorem dX8_order_39 : decode cX8_order 39 = .ok (.bipush (-4), 2) := by decide +kernel
theorem dX8_order_41 : decode cX8_order 41 = .ok (.ireturn, 1) := by decide +kernel
theorem dX8_order_42 : decode cX8_order 42 = .ok (.aload_n 0, 1) := by decide +kernel
theorem dX8_order_43 : decode cX8_order 43 = .ok (.iload_n 2, 1) := by decide +kernel
theorem dX8_order_44 : decode cX8_order 44 = .ok (.invokevirtual 220, 3) := by decide +kernel
theorem dX8_order_47 : decode cX8_order 47 = .ok (.aload_n 0, 1) := by decide +kernel
theorem dX8_order_48 : decode cX8_order 48 = .ok (.getfield 69, 3) := by decide +kernel
theorem dX8_order_51 : decode cX8_order 51 = .ok (.lstore_n 3, 1) := by decide +kernel
theorem dX8_order_52 : decode cX8_order 52 = .ok (.aload_n 0, 1) := by decide +kernel
theorem dX8_order_53 : decode cX8_order 53 = .ok (.getfield 72, 3) := by decide +kernel
theorem dX8_order_56 : decode cX8_order 56 = .ok (.lstore 5, 2) := by decide +kernel
theorem dX8_order_58 : decode cX8_order 58 = .ok (.aload_n 0, 1) := by decide +kernel
theorem dX8_order_59 : decode cX8_order 59 = .ok (.aload_n 0, 1) := by decide +kernel
theorem dX8_order_60 : decode cX8_order 60 = .ok (.getfield 13, 3) := by decide +kernel
theorem dX8_order_63 : decode cX8_order 63 = .ok (.iload_n 1, 1) := by decide +kernel
theorem dX8_order_64 : decode cX8_order 64 = .ok (.laload, 1) := by decide +kernel
theorem dX8_order_65 : decode cX8_order 65 = .ok (.aload_n 0, 1) := by decide +kernel
theorem dX8_order_66 : decode cX8_order 66 = .ok (.getfield 17, 3) := by decide +kernel
theorem dX8_order_69 : decode cX8_order 69 = .ok (.iload_n 1, 1) := by decide +kernel
theorem dX8_order_70 : decode cX8_order 70 = .ok (.laload, 1) := by decide +kernel
theorem dX8_order_71 : decode cX8_order 71 = .ok (.invokevirtual 75, 3) := by decide +kernel
theorem dX8_order_74 : decode cX8_order 74 = .ok (.aload_n 0, 1) := by decide +kernel
theorem dX8_order_75 : decode cX8_order 75 = .ok (.iload_n 2, 1) := by decide +kernel
theorem dX8_order_76 : decode cX8_order 76 = .ok (.invokevirtual 210, 3) := by decide +kernel
theorem dX8_order_79 : decode cX8_order 79 = .ok (.aload_n 0, 1) := by decide +kernel
theorem dX8_order_80 : decode cX8_order 80 = .ok (.getfield 69, 3) := by decide +kernel
theorem dX8_order_83 : decode cX8_order 83 = .ok (.lstore 7, 2) := by decide +kernel
theorem dX8_order_85 : decode cX8_order 85 = .ok (.aload_n 0, 1) := by decide +kernel
theorem dX8_order_86 : decode cX8_order 86 = .ok (.getfield 72, 3) := by decide +kernel
theorem dX8_order_89 : decode cX8_order 89 = .ok (.lstore 9, 2) := by decide +kernel
theorem dX8_order_91 : decode cX8_order 91 = .ok (.iconst 1, 1) := by decide +kernel
theorem dX8_order_92 : decode cX8_order 92 = .ok (.istore 11, 2) := by decide +kernel
theorem dX8_order_94 : decode cX8_order 94 = .ok (.aload_n 0, 1) := by decide +kernel
theorem dX8_order_95 : decode cX8_order 95 = .ok (.getfield 69, 3) := by decide +kernel
theorem dX8_order_98 : decode cX8_order 98 = .ok (.lload_n 3, 1) := by decide +kernel
theorem dX8_order_99 : decode cX8_order 99 = .ok (.lcmp, 1) := by decide +kernel
theorem dX8_order_100 : decode cX8_order 100 = .ok (.ifCond .ne 13, 3) := by decide +kernel
theorem dX8_order_103 : decode cX8_order 103 = .ok (.aload_n 0, 1) := by decide +kernel
theorem dX8_order_104 : decode cX8_order 104 = .ok (.getfield 72, 3) := by decide +kernel
theorem dX8_order_107 : decode cX8_order 107 = .ok (.lload 5, 2) := by decide +kernel
theorem dX8_order_109 : decode cX8_order 109 = .ok (.lcmp, 1) := by decide +kernel
theorem dX8_order_110 : decode cX8_order 110 = .ok (.ifCond .eq 30, 3) := by decide +kernel
theorem dX8_order_113 : decode cX8_order 113 = .ok (.aload_n 0, 1) := by decide +kernel
theorem dX8_order_114 : decode cX8_order 114 = .ok (.aload_n 0, 1) := by decide +kernel
theorem dX8_order_115 : decode cX8_order 115 = .ok (.getfield 69, 3) := by decide +kernel
theorem dX8_order_118 : decode cX8_order 118 = .ok (.aload_n 0, 1) := by decide +kernel
theorem dX8_order_119 : decode cX8_order 119 = .ok (.getfield 72, 3) := by decide +kernel
theorem dX8_order_122 : decode cX8_order 122 = .ok (.lload 7, 2) := by decide +kernel
theorem dX8_order_124 : decode cX8_order 124 = .ok (.lload 9, 2) := by decide +kernel
theorem dX8_order_126 : decode cX8_order 126 = .ok (.invokevirtual 108, 3) := by decide +kernel
theorem dX8_order_129 : decode cX8_order 129 = .ok (.aload_n 0, 1) := by decide +kernel
theorem dX8_order_130 : decode cX8_order 130 = .ok (.iload_n 2, 1) := by decide +kernel
theorem dX8_order_131 : decode cX8_order 131 = .ok (.invokevirtual 210, 3) := by decide +kernel
theorem dX8_order_134 : decode cX8_order 134 = .ok (.iinc 11 1, 3) := by decide +kernel
theorem dX8_order_137 : decode cX8_order 137 = .ok (.goto (-43), 3) := by decide +kernel
theorem dX8_order_140 : decode cX8_order 140 = .ok (.iload 11, 2) := by decide +kernel
theorem dX8_order_142 : decode cX8_order 142 = .ok (.ireturn, 1) := by decide +kernel
theorem dX8_inverse_0 : decode cX8_inverse 0 = .ok (.iload_n 1, 1) := by decide +kernel
theorem dX8_inverse_1 : decode cX8_inverse 1 = .ok (.invokestatic 92, 3) := by decide +kernel
theorem dX8_inverse_4 : decode cX8_inverse 4 = .ok (.ifCond .eq 17, 3) := by decide +kernel
theorem dX8_inverse_7 : decode cX8_inverse 7 = .ok (.iload_n 2, 1) := by decide +kernel
theorem dX8_inverse_8 : decode cX8_inverse 8 = .ok (.invokestatic 92, 3) := by decide +kernel
theorem dX8_inverse_11 : decode cX8_inverse 11 = .ok (.ifCond .eq 10, 3) := by decide +kernel
theorem dX8_inverse_14 : decode cX8_inverse 14 = .ok (.iload_n 3, 1) := by decide +kernel
theorem dX8_inverse_15 : decode cX8_inverse 15 = .ok (.invokestatic 92, 3) := by decide +kernel
theorem dX8_inverse_18 : decode cX8_inverse 18 = .ok (.ifCond .ne 5, 3) := by decide +kernel
theorem dX8_inverse_21 : decode cX8_inverse 21 = .ok (.iconst (-1), 1) := by decide +kernel
theorem dX8_inverse_22 : decode cX8_inverse 22 = .ok (.ireturn, 1) := by decide +kernel
theorem dX8_inverse_23 : decode cX8_inverse 23 = .ok (.aload_n 0, 1) := by decide +kernel
theorem dX8_inverse_24 : decode cX8_inverse 24 = .ok (.iload_n 3, 1) := by decide +kernel
theorem dX8_inverse_25 : decode cX8_inverse 25 = .ok (.ldc2_w 198, 3) := by decide +kernel
theorem dX8_inverse_28 : decode cX8_inverse 28 = .ok (.invokevirtual 216, 3) := by decide +kernel
theorem dX8_inverse_31 : decode cX8_inverse 31 = .ok (.ifCond .ne 6, 3) := by decide +kernel
theorem dX8_inverse_34 : decode cX8_inverse 34 = .ok (.bipush (-2), 2) := by decide +kernel
theorem dX8_inverse_36 : decode cX8_inverse 36 = .ok (.ireturn, 1) := by decide +kernel
theorem dX8_inverse_37 : decode cX8_inverse 37 = .ok (.aload_n 0, 1) := by decide +kernel
theorem dX8_inverse_38 : decode cX8_inverse 38 = .ok (.aload_n 0, 1) := by decide +kernel
theorem dX8_inverse_39 : decode cX8_inverse 39 = .ok (.getfield 13, 3) := by decide +kernel
theorem dX8_inverse_42 : decode cX8_inverse 42 = .ok (.iload_n 2, 1) := by decide +kernel
theorem dX8_inverse_43 : decode cX8_inverse 43 = .ok (.laload, 1) := by decide +kernel
theorem dX8_inverse_44 : decode cX8_inverse 44 = .ok (.aload_n 0, 1) := by decide +kernel
theorem dX8_inverse_45 : decode cX8_inverse 45 = .ok (.getfield 17, 3) := by decide +kernel
theorem dX8_inverse_48 : decode cX8_inverse 48 = .ok (.iload_n 2, 1) := by decide +kernel
theorem dX8_inverse_49 : decode cX8_inverse 49 = .ok (.laload, 1) := by decide +kernel
theorem dX8_inverse_50 : decode cX8_inverse 50 = .ok (.aload_n 0, 1) := by decide +kernel
theorem dX8_inverse_51 : decode cX8_inverse 51 = .ok (.getfield 13, 3) := by decide +kernel
theorem dX8_inverse_54 : decode cX8_inverse 54 = .ok (.iload_n 3, 1) := by decide +kernel
theorem dX8_inverse_55 : decode cX8_inverse 55 = .ok (.laload, 1) := by decide +kernel
theorem dX8_inverse_56 : decode cX8_inverse 56 = .ok (.aload_n 0, 1) := by decide +kernel
theorem dX8_inverse_57 : decode cX8_inverse 57 = .ok (.getfield 17, 3) := by decide +kernel
theorem dX8_inverse_60 : decode cX8_inverse 60 = .ok (.iload_n 3, 1) := by decide +kernel
theorem dX8_inverse_61 : decode cX8_inverse 61 = .ok (.laload, 1) := by decide +kernel
theorem dX8_inverse_62 : decode cX8_inverse 62 = .ok (.invokevirtual 159, 3) := by decide +kernel
theorem dX8_inverse_65 : decode cX8_inverse 65 = .ok (.aload_n 0, 1) := by decide +kernel
theorem dX8_inverse_66 : decode cX8_inverse 66 = .ok (.aload_n 0, 1) := by decide +kernel
theorem dX8_inverse_67 : decode cX8_inverse 67 = .ok (.getfield 153, 3) := by decide +kernel
theorem dX8_inverse_70 : decode cX8_inverse 70 = .ok (.aload_n 0, 1) := by decide +kernel
theorem dX8_inverse_71 : decode cX8_inverse 71 = .ok (.getfield 156, 3) := by decide +kernel
theorem dX8_inverse_74 : decode cX8_inverse 74 = .ok (.invokevirtual 79, 3) := by decide +kernel
theorem dX8_inverse_77 : decode cX8_inverse 77 = .ok (.lconst 1, 1) := by decide +kernel
theorem dX8_inverse_78 : decode cX8_inverse 78 = .ok (.lcmp, 1) := by decide +kernel
theorem dX8_inverse_79 : decode cX8_inverse 79 = .ok (.ifCond .eq 6, 3) := by decide +kernel
theorem dX8_inverse_82 : decode cX8_inverse 82 = .ok (.bipush (-4), 2) := by decide +kernel
theorem dX8_inverse_84 : decode cX8_inverse 84 = .ok (.ireturn, 1) := by decide +kernel
theorem dX8_inverse_85 : decode cX8_inverse 85 = .ok (.aload_n 0, 1) := by decide +kernel
theorem dX8_inverse_86 : decode cX8_inverse 86 = .ok (.aload_n 0, 1) := by decide +kernel
theorem dX8_inverse_87 : decode cX8_inverse 87 = .ok (.getfield 141, 3) := by decide +kernel
theorem dX8_inverse_90 : decode cX8_inverse 90 = .ok (.aload_n 0, 1) := by decide +kernel
theorem dX8_inverse_91 : decode cX8_inverse 91 = .ok (.getfield 144, 3) := by decide +kernel
theorem dX8_inverse_94 : decode cX8_inverse 94 = .ok (.aload_n 0, 1) := by decide +kernel
theorem dX8_inverse_95 : decode cX8_inverse 95 = .ok (.getfield 153, 3) := by decide +kernel
theorem dX8_inverse_98 : decode cX8_inverse 98 = .ok (.aload_n 0, 1) := by decide +kernel
theorem dX8_inverse_99 : decode cX8_inverse 99 = .ok (.getfield 66, 3) := by decide +kernel
theorem dX8_inverse_102 : decode cX8_inverse 102 = .ok (.aload_n 0, 1) := by decide +kernel
theorem dX8_inverse_103 : decode cX8_inverse 103 = .ok (.getfield 156, 3) := by decide +kernel
theorem dX8_inverse_106 : decode cX8_inverse 106 = .ok (.lmul, 1) := by decide +kernel
theorem dX8_inverse_107 : decode cX8_inverse 107 = .ok (.ladd, 1) := by decide +kernel
theorem dX8_inverse_108 : decode cX8_inverse 108 = .ok (.aload_n 0, 1) := by decide +kernel
theorem dX8_inverse_109 : decode cX8_inverse 109 = .ok (.getfield 156, 3) := by decide +kernel
theorem dX8_inverse_112 : decode cX8_inverse 112 = .ok (.lneg, 1) := by decide +kernel
theorem dX8_inverse_113 : decode cX8_inverse 113 = .ok (.invokevirtual 108, 3) := by decide +kernel
theorem dX8_inverse_116 : decode cX8_inverse 116 = .ok (.aload_n 0, 1) := by decide +kernel
theorem dX8_inverse_117 : decode cX8_inverse 117 = .ok (.iload_n 3, 1) := by decide +kernel
theorem dX8_inverse_118 : decode cX8_inverse 118 = .ok (.invokevirtual 210, 3) := by decide +kernel
theorem dX8_inverse_121 : decode cX8_inverse 121 = .ok (.aload_n 0, 1) := by decide +kernel
theorem dX8_inverse_122 : decode cX8_inverse 122 = .ok (.iload_n 1, 1) := by decide +kernel
theorem dX8_inverse_123 : decode cX8_inverse 123 = .ok (.invokevirtual 137, 3) := by decide +kernel
theorem dX8_inverse_126 : decode cX8_inverse 126 = .ok (.ireturn, 1) := by decide +kernel
theorem dX8_single_0 : decode cX8_single 0 = .ok (.iload_n 1, 1) := by decide +kernel
theorem dX8_single_1 : decode cX8_single 1 = .ok (.invokestatic 92, 3) := by decide +kernel
theorem dX8_single_4 : decode cX8_single 4 = .ok (.ifCond .ne 5, 3) := by decide +kernel
theorem dX8_single_7 : decode cX8_single 7 = .ok (.iconst (-1), 1) := by decide +kernel
theorem dX8_single_8 : decode cX8_single 8 = .ok (.ireturn, 1) := by decide +kernel
theorem dX8_single_9 : decode cX8_single 9 = .ok (.aload_n 0, 1) := by decide +kernel
theorem dX8_single_10 : decode cX8_single 10 = .ok (.iload_n 1, 1) := by decide +kernel
theorem dX8_single_11 : decode cX8_single 11 = .ok (.ldc2_w 198, 3) := by decide +kernel
theorem dX8_single_14 : decode cX8_single 14 = .ok (.invokevirtual 216, 3) := by decide +kernel
theorem dX8_single_17 : decode cX8_single 17 = .ok (.ifCond .ne 6, 3) := by decide +kernel
theorem dX8_single_20 : decode cX8_single 20 = .ok (.bipush (-2), 2) := by decide +kernel
theorem dX8_single_22 : decode cX8_single 22 = .ok (.ireturn, 1) := by decide +kernel
theorem dX8_single_23 : decode cX8_single 23 = .ok (.aload_n 0, 1) := by decide +kernel
theorem dX8_single_24 : decode cX8_single 24 = .ok (.aload_n 0, 1) := by decide +kernel
theorem dX8_single_25 : decode cX8_single 25 = .ok (.getfield 13, 3) := by decide +kernel
theorem dX8_single_28 : decode cX8_single 28 = .ok (.iload_n 1, 1) := by decide +kernel
theorem dX8_single_29 : decode cX8_single 29 = .ok (.laload, 1) := by decide +kernel
theorem dX8_single_30 : decode cX8_single 30 = .ok (.aload_n 0, 1) := by decide +kernel
theorem dX8_single_31 : decode cX8_single 31 = .ok (.getfield 17, 3) := by decide +kernel
theorem dX8_single_34 : decode cX8_single 34 = .ok (.iload_n 1, 1) := by decide +kernel
theorem dX8_single_35 : decode cX8_single 35 = .ok (.laload, 1) := by decide +kernel
theorem dX8_single_36 : decode cX8_single 36 = .ok (.invokevirtual 79, 3) := by decide +kernel
theorem dX8_single_39 : decode cX8_single 39 = .ok (.lstore_n 2, 1) := by decide +kernel
theorem dX8_single_40 : decode cX8_single 40 = .ok (.aload_n 0, 1) := by decide +kernel
theorem dX8_single_41 : decode cX8_single 41 = .ok (.aload_n 0, 1) := by decide +kernel
theorem dX8_single_42 : decode cX8_single 42 = .ok (.getfield 13, 3) := by decide +kernel
theorem dX8_single_45 : decode cX8_single 45 = .ok (.iload_n 1, 1) := by decide +kernel
theorem dX8_single_46 : decode cX8_single 46 = .ok (.laload, 1) := by decide +kernel
theorem dX8_single_47 : decode cX8_single 47 = .ok (.aload_n 0, 1) := by decide +kernel
theorem dX8_single_48 : decode cX8_single 48 = .ok (.getfield 17, 3) := by decide +kernel
theorem dX8_single_51 : decode cX8_single 51 = .ok (.iload_n 1, 1) := by decide +kernel
theorem dX8_single_52 : decode cX8_single 52 = .ok (.laload, 1) := by decide +kernel
theorem dX8_single_53 : decode cX8_single 53 = .ok (.invokevirtual 195, 3) := by decide +kernel
theorem dX8_single_56 : decode cX8_single 56 = .ok (.iconst 0, 1) := by decide +kernel
theorem dX8_single_57 : decode cX8_single 57 = .ok (.istore 4, 2) := by decide +kernel
theorem dX8_single_59 : decode cX8_single 59 = .ok (.iload 4, 2) := by decide +kernel
theorem dX8_single_61 : decode cX8_single 61 = .ok (.aload_n 0, 1) := by decide +kernel
theorem dX8_single_62 : decode cX8_single 62 = .ok (.getfield 178, 3) := by decide +kernel
theorem dX8_single_65 : decode cX8_single 65 = .ok (.if_icmp .ge 100, 3) := by decide +kernel
theorem dX8_single_68 : decode cX8_single 68 = .ok (.iload 4, 2) := by decide +kernel
theorem dX8_single_70 : decode cX8_single 70 = .ok (.ifCond .eq 43, 3) := by decide +kernel
theorem dX8_single_73 : decode cX8_single 73 = .ok (.aload_n 0, 1) := by decide +kernel
theorem dX8_single_74 : decode cX8_single 74 = .ok (.getfield 32, 3) := by decide +kernel
theorem dX8_single_77 : decode cX8_single 77 = .ok (.iload 4, 2) := by decide +kernel
theorem dX8_single_79 : decode cX8_single 79 = .ok (.laload, 1) := by decide +kernel
theorem dX8_single_80 : decode cX8_single 80 = .ok (.aload_n 0, 1) := by decide +kernel
theorem dX8_single_81 : decode cX8_single 81 = .ok (.getfield 32, 3) := by decide +kernel
theorem dX8_single_84 : decode cX8_single 84 = .ok (.iload 4, 2) := by decide +kernel
theorem dX8_single_86 : decode cX8_single 86 = .ok (.iconst 1, 1) := by decide +kernel
theorem dX8_single_87 : decode cX8_single 87 = .ok (.isub, 1) := by decide +kernel
theorem dX8_single_88 : decode cX8_single 88 = .ok (.laload, 1) := by decide +kernel
theorem dX8_single_89 : decode cX8_single 89 = .ok (.lcmp, 1) := by decide +kernel
theorem dX8_single_90 : decode cX8_single 90 = .ok (.ifCond .ne 23, 3) := by decide +kernel
theorem dX8_single_93 : decode cX8_single 93 = .ok (.aload_n 0, 1) := by decide +kernel
theorem dX8_single_94 : decode cX8_single 94 = .ok (.getfield 35, 3) := by decide +kernel
theorem dX8_single_97 : decode cX8_single 97 = .ok (.iload 4, 2) := by decide +kernel
theorem dX8_single_99 : decode cX8_single 99 = .ok (.laload, 1) := by decide +kernel
theorem dX8_single_100 : decode cX8_single 100 = .ok (.aload_n 0, 1) := by decide +kernel
theorem dX8_single_101 : decode cX8_single 101 = .ok (.getfield 35, 3) := by decide +kernel
theorem dX8_single_104 : decode cX8_single 104 = .ok (.iload 4, 2) := by decide +kernel
theorem dX8_single_106 : decode cX8_single 106 = .ok (.iconst 1, 1) := by decide +kernel
theorem dX8_single_107 : decode cX8_single 107 = .ok (.isub, 1) := by decide +kernel
theorem dX8_single_108 : decode cX8_single 108 = .ok (.laload, 1) := by decide +kernel
theorem dX8_single_109 : decode cX8_single 109 = .ok (.lcmp, 1) := by decide +kernel
theorem dX8_single_110 : decode cX8_single 110 = .ok (.ifCond .eq 7, 3) := by decide +kernel
theorem dX8_single_113 : decode cX8_single 113 = .ok (.iconst 1, 1) := by decide +kernel
theorem dX8_single_114 : decode cX8_single 114 = .ok (.goto 4, 3) := by decide +kernel
theorem dX8_single_117 : decode cX8_single 117 = .ok (.iconst 0, 1) := by decide +kernel
theorem dX8_single_118 : decode cX8_single 118 = .ok (.istore 5, 2) := by decide +kernel
theorem dX8_single_120 : decode cX8_single 120 = .ok (.aload_n 0, 1) := by decide +kernel
theorem dX8_single_121 : decode cX8_single 121 = .ok (.aload_n 0, 1) := by decide +kernel
theorem dX8_single_122 : decode cX8_single 122 = .ok (.getfield 32, 3) := by decide +kernel
theorem dX8_single_125 : decode cX8_single 125 = .ok (.iload 4, 2) := by decide +kernel
theorem dX8_single_127 : decode cX8_single 127 = .ok (.laload, 1) := by decide +kernel
theorem dX8_single_128 : decode cX8_single 128 = .ok (.aload_n 0, 1) := by decide +kernel
theorem dX8_single_129 : decode cX8_single 129 = .ok (.getfield 35, 3) := by decide +kernel
theorem dX8_single_132 : decode cX8_single 132 = .ok (.iload 4, 2) := by decide +kernel
theorem dX8_single_134 : decode cX8_single 134 = .ok (.laload, 1) := by decide +kernel
theorem dX8_single_135 : decode cX8_single 135 = .ok (.invokevirtual 79, 3) := by decide +kernel
theorem dX8_single_138 : decode cX8_single 138 = .ok (.lstore 6, 2) := by decide +kernel
theorem dX8_single_140 : decode cX8_single 140 = .ok (.iload 5, 2) := by decide +kernel
theorem dX8_single_142 : decode cX8_single 142 = .ok (.ifCond .eq 15, 3) := by decide +kernel
theorem dX8_single_145 : decode cX8_single 145 = .ok (.lload_n 2, 1) := by decide +kernel
theorem dX8_single_146 : decode cX8_single 146 = .ok (.lload 6, 2) := by decide +kernel
theorem dX8_single_148 : decode cX8_single 148 = .ok (.ldiv, 1) := by decide +kernel
theorem dX8_single_149 : decode cX8_single 149 = .ok (.lload 6, 2) := by decide +kernel
theorem dX8_single_151 : decode cX8_single 151 = .ok (.lconst 1, 1) := by decide +kernel
theorem dX8_single_152 : decode cX8_single 152 = .ok (.lsub, 1) := by decide +kernel
theorem dX8_single_153 : decode cX8_single 153 = .ok (.lmul, 1) := by decide +kernel
theorem dX8_single_154 : decode cX8_single 154 = .ok (.goto 4, 3) := by decide +kernel
theorem dX8_single_157 : decode cX8_single 157 = .ok (.lload_n 2, 1) := by decide +kernel
theorem dX8_single_158 : decode cX8_single 158 = .ok (.lstore_n 2, 1) := by decide +kernel
theorem dX8_single_159 : decode cX8_single 159 = .ok (.iinc 4 1, 3) := by decide +kernel
theorem dX8_single_162 : decode cX8_single 162 = .ok (.goto (-103), 3) := by decide +kernel
theorem dX8_single_165 : decode cX8_single 165 = .ok (.lload_n 2, 1) := by decide +kernel
theorem dX8_single_166 : decode cX8_single 166 = .ok (.l2i, 1) := by decide +kernel
theorem dX8_single_167 : decode cX8_single 167 = .ok (.ireturn, 1) := by decide +kernel
theorem dX8_rootsOf_0 : decode cX8_rootsOf 0 = .ok (.iconst 0, 1) := by decide +kernel
theorem dX8_rootsOf_1 : decode cX8_rootsOf 1 = .ok (.istore 4, 2) := by decide +kernel
theorem dX8_rootsOf_3 : decode cX8_rootsOf 3 = .ok (.aload_n 0, 1) := by decide +kernel
theorem dX8_rootsOf_4 : decode cX8_rootsOf 4 = .ok (.aload_n 0, 1) := by decide +kernel
theorem dX8_rootsOf_5 : decode cX8_rootsOf 5 = .ok (.getfield 13, 3) := by decide +kernel
theorem dX8_rootsOf_8 : decode cX8_rootsOf 8 = .ok (.iload_n 1, 1) := by decide +kernel
theorem dX8_rootsOf_9 : decode cX8_rootsOf 9 = .ok (.laload, 1) := by decide +kernel
theorem dX8_rootsOf_10 : decode cX8_rootsOf 10 = .ok (.aload_n 0, 1) := by decide +kernel
theorem dX8_rootsOf_11 : decode cX8_rootsOf 11 = .ok (.getfield 17, 3) := by decide +kernel
theorem dX8_rootsOf_14 : decode cX8_rootsOf 14 = .ok (.iload_n 1, 1) := by decide +kernel
theorem dX8_rootsOf_15 : decode cX8_rootsOf 15 = .ok (.laload, 1) := by decide +kernel
theorem dX8_rootsOf_16 : decode cX8_rootsOf 16 = .ok (.invokevirtual 75, 3) := by decide +kernel
theorem dX8_rootsOf_19 : decode cX8_rootsOf 19 = .ok (.aload_n 0, 1) := by decide +kernel
theorem dX8_rootsOf_20 : decode cX8_rootsOf 20 = .ok (.iload_n 2, 1) := by decide +kernel
theorem dX8_rootsOf_21 : decode cX8_rootsOf 21 = .ok (.invokevirtual 210, 3) := by decide +kernel
theorem dX8_rootsOf_24 : decode cX8_rootsOf 24 = .ok (.aload_n 0, 1) := by decide +kernel
theorem dX8_rootsOf_25 : decode cX8_rootsOf 25 = .ok (.getfield 69, 3) := by decide +kernel
theorem dX8_rootsOf_28 : decode cX8_rootsOf 28 = .ok (.lstore 5, 2) := by decide +kernel
theorem dX8_rootsOf_30 : decode cX8_rootsOf 30 = .ok (.aload_n 0, 1) := by decide +kernel
theorem dX8_rootsOf_31 : decode cX8_rootsOf 31 = .ok (.getfield 72, 3) := by decide +kernel
theorem dX8_rootsOf_34 : decode cX8_rootsOf 34 = .ok (.lstore 7, 2) := by decide +kernel
theorem dX8_rootsOf_36 : decode cX8_rootsOf 36 = .ok (.ldc2_w 226, 3) := by decide +kernel
theorem dX8_rootsOf_39 : decode cX8_rootsOf 39 = .ok (.lstore 9, 2) := by decide +kernel
theorem dX8_rootsOf_41 : decode cX8_rootsOf 41 = .ok (.lload 9, 2) := by decide +kernel
theorem dX8_rootsOf_43 : decode cX8_rootsOf 43 = .ok (.ldc2_w 228, 3) := by decide +kernel
theorem dX8_rootsOf_46 : decode cX8_rootsOf 46 = .ok (.lcmp, 1) := by decide +kernel
theorem dX8_rootsOf_47 : decode cX8_rootsOf 47 = .ok (.ifCond .gt 126, 3) := by decide +kernel
theorem dX8_rootsOf_50 : decode cX8_rootsOf 50 = .ok (.ldc2_w 226, 3) := by decide +kernel
theorem dX8_rootsOf_53 : decode cX8_rootsOf 53 = .ok (.lstore 11, 2) := by decide +kernel
theorem dX8_rootsOf_55 : decode cX8_rootsOf 55 = .ok (.lload 11, 2) := by decide +kernel
theorem dX8_rootsOf_57 : decode cX8_rootsOf 57 = .ok (.ldc2_w 228, 3) := by decide +kernel
theorem dX8_rootsOf_60 : decode cX8_rootsOf 60 = .ok (.lcmp, 1) := by decide +kernel
theorem dX8_rootsOf_61 : decode cX8_rootsOf 61 = .ok (.ifCond .gt 103, 3) := by decide +kernel
theorem dX8_rootsOf_64 : decode cX8_rootsOf 64 = .ok (.aload_n 0, 1) := by decide +kernel
theorem dX8_rootsOf_65 : decode cX8_rootsOf 65 = .ok (.lload 9, 2) := by decide +kernel
theorem dX8_rootsOf_67 : decode cX8_rootsOf 67 = .ok (.lload 11, 2) := by decide +kernel
theorem dX8_rootsOf_69 : decode cX8_rootsOf 69 = .ok (.invokevirtual 75, 3) := by decide +kernel
theorem dX8_rootsOf_72 : decode cX8_rootsOf 72 = .ok (.aload_n 0, 1) := by decide +kernel
theorem dX8_rootsOf_73 : decode cX8_rootsOf 73 = .ok (.iload_n 2, 1) := by decide +kernel
theorem dX8_rootsOf_74 : decode cX8_rootsOf 74 = .ok (.invokevirtual 210, 3) := by decide +kernel
theorem dX8_rootsOf_77 : decode cX8_rootsOf 77 = .ok (.aload_n 0, 1) := by decide +kernel
theorem dX8_rootsOf_78 : decode cX8_rootsOf 78 = .ok (.getfield 69, 3) := by decide +kernel
theorem dX8_rootsOf_81 : decode cX8_rootsOf 81 = .ok (.lload 9, 2) := by decide +kernel
theorem dX8_rootsOf_83 : decode cX8_rootsOf 83 = .ok (.lcmp, 1) := by decide +kernel
theorem dX8_rootsOf_84 : decode cX8_rootsOf 84 = .ok (.ifCond .ne 71, 3) := by decide +kernel
theorem dX8_rootsOf_87 : decode cX8_rootsOf 87 = .ok (.aload_n 0, 1) := by decide +kernel
theorem dX8_rootsOf_88 : decode cX8_rootsOf 88 = .ok (.getfield 72, 3) := by decide +kernel
theorem dX8_rootsOf_91 : decode cX8_rootsOf 91 = .ok (.lload 11, 2) := by decide +kernel
theorem dX8_rootsOf_93 : decode cX8_rootsOf 93 = .ok (.lcmp, 1) := by decide +kernel
theorem dX8_rootsOf_94 : decode cX8_rootsOf 94 = .ok (.ifCond .ne 61, 3) := by decide +kernel
theorem dX8_rootsOf_97 : decode cX8_rootsOf 97 = .ok (.aload_n 0, 1) := by decide +kernel
theorem dX8_rootsOf_98 : decode cX8_rootsOf 98 = .ok (.lload 9, 2) := by decide +kernel
theorem dX8_rootsOf_100 : decode cX8_rootsOf 100 = .ok (.lload 11, 2) := by decide +kernel
theorem dX8_rootsOf_102 : decode cX8_rootsOf 102 = .ok (.lload 9, 2) := by decide +kernel
theorem dX8_rootsOf_104 : decode cX8_rootsOf 104 = .ok (.lload 11, 2) := by decide +kernel
theorem dX8_rootsOf_106 : decode cX8_rootsOf 106 = .ok (.invokevirtual 108, 3) := by decide +kernel
theorem dX8_rootsOf_109 : decode cX8_rootsOf 109 = .ok (.aload_n 0, 1) := by decide +kernel
theorem dX8_rootsOf_110 : decode cX8_rootsOf 110 = .ok (.iload_n 2, 1) := by decide +kernel
theorem dX8_rootsOf_111 : decode cX8_rootsOf 111 = .ok (.invokevirtual 210, 3) := by decide +kernel
theorem dX8_rootsOf_114 : decode cX8_rootsOf 114 = .ok (.aload_n 0, 1) := by decide +kernel
theorem dX8_rootsOf_115 : decode cX8_rootsOf 115 = .ok (.getfield 69, 3) := by decide +kernel
theorem dX8_rootsOf_118 : decode cX8_rootsOf 118 = .ok (.lload 5, 2) := by decide +kernel
theorem dX8_rootsOf_120 : decode cX8_rootsOf 120 = .ok (.lcmp, 1) := by decide +kernel
theorem dX8_rootsOf_121 : decode cX8_rootsOf 121 = .ok (.ifCond .ne 34, 3) := by decide +kernel
theorem dX8_rootsOf_124 : decode cX8_rootsOf 124 = .ok (.aload_n 0, 1) := by decide +kernel
theorem dX8_rootsOf_125 : decode cX8_rootsOf 125 = .ok (.getfield 72, 3) := by decide +kernel
theorem dX8_rootsOf_128 : decode cX8_rootsOf 128 = .ok (.lload 7, 2) := by decide +kernel
theorem dX8_rootsOf_130 : decode cX8_rootsOf 130 = .ok (.lcmp, 1) := by decide +kernel
theorem dX8_rootsOf_131 : decode cX8_rootsOf 131 = .ok (.ifCond .ne 24, 3) := by decide +kernel
theorem dX8_rootsOf_134 : decode cX8_rootsOf 134 = .ok (.iload 4, 2) := by decide +kernel
theorem dX8_rootsOf_136 : decode cX8_rootsOf 136 = .ok (.iload_n 3, 1) := by decide +kernel
theorem dX8_rootsOf_137 : decode cX8_rootsOf 137 = .ok (.if_icmp .ne 15, 3) := by decide +kernel
theorem dX8_rootsOf_140 : decode cX8_rootsOf 140 = .ok (.aload_n 0, 1) := by decide +kernel
theorem dX8_rootsOf_141 : decode cX8_rootsOf 141 = .ok (.lload 9, 2) := by decide +kernel
theorem dX8_rootsOf_143 : decode cX8_rootsOf 143 = .ok (.putfield 230, 3) := by decide +kernel
theorem dX8_rootsOf_146 : decode cX8_rootsOf 146 = .ok (.aload_n 0, 1) := by decide +kernel
theorem dX8_rootsOf_147 : decode cX8_rootsOf 147 = .ok (.lload 11, 2) := by decide +kernel
theorem dX8_rootsOf_149 : decode cX8_rootsOf 149 = .ok (.putfield 233, 3) := by decide +kernel
theorem dX8_rootsOf_152 : decode cX8_rootsOf 152 = .ok (.iinc 4 1, 3) := by decide +kernel
theorem dX8_rootsOf_155 : decode cX8_rootsOf 155 = .ok (.lload 11, 2) := by decide +kernel
theorem dX8_rootsOf_157 : decode cX8_rootsOf 157 = .ok (.lconst 1, 1) := by decide +kernel
theorem dX8_rootsOf_158 : decode cX8_rootsOf 158 = .ok (.ladd, 1) := by decide +kernel
theorem dX8_rootsOf_159 : decode cX8_rootsOf 159 = .ok (.lstore 11, 2) := by decide +kernel
theorem dX8_rootsOf_161 : decode cX8_rootsOf 161 = .ok (.goto (-106), 3) := by decide +kernel
theorem dX8_rootsOf_164 : decode cX8_rootsOf 164 = .ok (.lload 9, 2) := by decide +kernel
theorem dX8_rootsOf_166 : decode cX8_rootsOf 166 = .ok (.lconst 1, 1) := by decide +kernel
theorem dX8_rootsOf_167 : decode cX8_rootsOf 167 = .ok (.ladd, 1) := by decide +kernel
theorem dX8_rootsOf_168 : decode cX8_rootsOf 168 = .ok (.lstore 9, 2) := by decide +kernel
theorem dX8_rootsOf_170 : decode cX8_rootsOf 170 = .ok (.goto (-129), 3) := by decide +kernel
theorem dX8_rootsOf_173 : decode cX8_rootsOf 173 = .ok (.iload 4, 2) := by decide +kernel
theorem dX8_rootsOf_175 : decode cX8_rootsOf 175 = .ok (.ireturn, 1) := by decide +kernel
theorem dX8_roots_0 : decode cX8_roots 0 = .ok (.iload_n 1, 1) := by decide +kernel
theorem dX8_roots_1 : decode cX8_roots 1 = .ok (.invokestatic 92, 3) := by decide +kernel
theorem dX8_roots_4 : decode cX8_roots 4 = .ok (.ifCond .eq 10, 3) := by decide +kernel
theorem dX8_roots_7 : decode cX8_roots 7 = .ok (.iload_n 2, 1) := by decide +kernel
theorem dX8_roots_8 : decode cX8_roots 8 = .ok (.invokestatic 92, 3) := by decide +kernel
theorem dX8_roots_11 : decode cX8_roots 11 = .ok (.ifCond .ne 5, 3) := by decide +kernel
theorem dX8_roots_14 : decode cX8_roots 14 = .ok (.iconst (-1), 1) := by decide +kernel
theorem dX8_roots_15 : decode cX8_roots 15 = .ok (.ireturn, 1) := by decide +kernel
theorem dX8_roots_16 : decode cX8_roots 16 = .ok (.aload_n 0, 1) := by decide +kernel
theorem dX8_roots_17 : decode cX8_roots 17 = .ok (.iload_n 2, 1) := by decide +kernel
theorem dX8_roots_18 : decode cX8_roots 18 = .ok (.ldc2_w 202, 3) := by decide +kernel
theorem dX8_roots_21 : decode cX8_roots 21 = .ok (.invokevirtual 216, 3) := by decide +kernel
theorem dX8_roots_24 : decode cX8_roots 24 = .ok (.ifCond .eq 13, 3) := by decide +kernel
theorem dX8_roots_27 : decode cX8_roots 27 = .ok (.aload_n 0, 1) := by decide +kernel
theorem dX8_roots_28 : decode cX8_roots 28 = .ok (.iload_n 1, 1) := by decide +kernel
theorem dX8_roots_29 : decode cX8_roots 29 = .ok (.iload_n 2, 1) := by decide +kernel
theorem dX8_roots_30 : decode cX8_roots 30 = .ok (.iconst (-1), 1) := by decide +kernel
theorem dX8_roots_31 : decode cX8_roots 31 = .ok (.invokevirtual 236, 3) := by decide +kernel
theorem dX8_roots_34 : decode cX8_roots 34 = .ok (.goto 5, 3) := by decide +kernel
theorem dX8_roots_37 : decode cX8_roots 37 = .ok (.bipush (-2), 2) := by decide +kernel
theorem dX8_roots_39 : decode cX8_roots 39 = .ok (.ireturn, 1) := by decide +kernel
theorem dX8_root_0 : decode cX8_root 0 = .ok (.iload_n 1, 1) := by decide +kernel
theorem dX8_root_1 : decode cX8_root 1 = .ok (.invokestatic 92, 3) := by decide +kernel
theorem dX8_root_4 : decode cX8_root 4 = .ok (.ifCond .eq 22, 3) := by decide +kernel
theorem dX8_root_7 : decode cX8_root 7 = .ok (.iload_n 2, 1) := by decide +kernel
theorem dX8_root_8 : decode cX8_root 8 = .ok (.invokestatic 92, 3) := by decide +kernel
theorem dX8_root_11 : decode cX8_root 11 = .ok (.ifCond .eq 15, 3) := by decide +kernel
theorem dX8_root_14 : decode cX8_root 14 = .ok (.iload_n 3, 1) := by decide +kernel
theorem dX8_root_15 : decode cX8_root 15 = .ok (.invokestatic 92, 3) := by decide +kernel
theorem dX8_root_18 : decode cX8_root 18 = .ok (.ifCond .eq 8, 3) := by decide +kernel
theorem dX8_root_21 : decode cX8_root 21 = .ok (.iload 4, 2) := by decide +kernel
theorem dX8_root_23 : decode cX8_root 23 = .ok (.ifCond .ge 5, 3) := by decide +kernel
theorem dX8_root_26 : decode cX8_root 26 = .ok (.iconst (-1), 1) := by decide +kernel
theorem dX8_root_27 : decode cX8_root 27 = .ok (.ireturn, 1) := by decide +kernel
theorem dX8_root_28 : decode cX8_root 28 = .ok (.aload_n 0, 1) := by decide +kernel
theorem dX8_root_29 : decode cX8_root 29 = .ok (.iload_n 3, 1) := by decide +kernel
theorem dX8_root_30 : decode cX8_root 30 = .ok (.ldc2_w 202, 3) := by decide +kernel
theorem dX8_root_33 : decode cX8_root 33 = .ok (.invokevirtual 216, 3) := by decide +kernel
theorem dX8_root_36 : decode cX8_root 36 = .ok (.ifCond .ne 6, 3) := by decide +kernel
theorem dX8_root_39 : decode cX8_root 39 = .ok (.bipush (-2), 2) := by decide +kernel
theorem dX8_root_41 : decode cX8_root 41 = .ok (.ireturn, 1) := by decide +kernel
theorem dX8_root_42 : decode cX8_root 42 = .ok (.aload_n 0, 1) := by decide +kernel
theorem dX8_root_43 : decode cX8_root 43 = .ok (.iload_n 2, 1) := by decide +kernel
theorem dX8_root_44 : decode cX8_root 44 = .ok (.iload_n 3, 1) := by decide +kernel
theorem dX8_root_45 : decode cX8_root 45 = .ok (.iload 4, 2) := by decide +kernel
theorem dX8_root_47 : decode cX8_root 47 = .ok (.invokevirtual 236, 3) := by decide +kernel
theorem dX8_root_50 : decode cX8_root 50 = .ok (.iload 4, 2) := by decide +kernel
theorem dX8_root_52 : decode cX8_root 52 = .ok (.if_icmp .gt 6, 3) := by decide +kernel
theorem dX8_root_55 : decode cX8_root 55 = .ok (.bipush (-4), 2) := by decide +kernel
theorem dX8_root_57 : decode cX8_root 57 = .ok (.ireturn, 1) := by decide +kernel
theorem dX8_root_58 : decode cX8_root 58 = .ok (.aload_n 0, 1) := by decide +kernel
theorem dX8_root_59 : decode cX8_root 59 = .ok (.aload_n 0, 1) := by decide +kernel
theorem dX8_root_60 : decode cX8_root 60 = .ok (.getfield 230, 3) := by decide +kernel
theorem dX8_root_63 : decode cX8_root 63 = .ok (.aload_n 0, 1) := by decide +kernel
theorem dX8_root_64 : decode cX8_root 64 = .ok (.getfield 233, 3) := by decide +kernel
theorem dX8_root_67 : decode cX8_root 67 = .ok (.invokevirtual 75, 3) := by decide +kernel
theorem dX8_root_70 : decode cX8_root 70 = .ok (.aload_n 0, 1) := by decide +kernel
theorem dX8_root_71 : decode cX8_root 71 = .ok (.iload_n 1, 1) := by decide +kernel
theorem dX8_root_72 : decode cX8_root 72 = .ok (.invokevirtual 137, 3) := by decide +kernel
theorem dX8_root_75 : decode cX8_root 75 = .ok (.ireturn, 1) := by decide +kernel
theorem dX8_isBase_0 : decode cX8_isBase 0 = .ok (.aload_n 0, 1) := by decide +kernel
theorem dX8_isBase_1 : decode cX8_isBase 1 = .ok (.aload_n 0, 1) := by decide +kernel
theorem dX8_isBase_2 : decode cX8_isBase 2 = .ok (.getfield 13, 3) := by decide +kernel
theorem dX8_isBase_5 : decode cX8_isBase 5 = .ok (.iload_n 1, 1) := by decide +kernel
theorem dX8_isBase_6 : decode cX8_isBase 6 = .ok (.laload, 1) := by decide +kernel
theorem dX8_isBase_7 : decode cX8_isBase 7 = .ok (.aload_n 0, 1) := by decide +kernel
theorem dX8_isBase_8 : decode cX8_isBase 8 = .ok (.getfield 17, 3) := by decide +kernel
theorem dX8_isBase_11 : decode cX8_isBase 11 = .ok (.iload_n 1, 1) := by decide +kernel
theorem dX8_isBase_12 : decode cX8_isBase 12 = .ok (.laload, 1) := by decide +kernel
theorem dX8_isBase_13 : decode cX8_isBase 13 = .ok (.invokevirtual 79, 3) := by decide +kernel
theorem dX8_isBase_16 : decode cX8_isBase 16 = .ok (.lstore_n 2, 1) := by decide +kernel
theorem dX8_isBase_17 : decode cX8_isBase 17 = .ok (.lload_n 2, 1) := by decide +kernel
theorem dX8_isBase_18 : decode cX8_isBase 18 = .ok (.ldc2_w 85, 3) := by decide +kernel
theorem dX8_isBase_21 : decode cX8_isBase 21 = .ok (.ldc2_w 240, 3) := by decide +kernel
theorem dX8_isBase_24 : decode cX8_isBase 24 = .ok (.invokestatic 62, 3) := by decide +kernel
theorem dX8_isBase_27 : decode cX8_isBase 27 = .ok (.ifCond .ne 5, 3) := by decide +kernel
theorem dX8_isBase_30 : decode cX8_isBase 30 = .ok (.iconst 0, 1) := by decide +kernel
theorem dX8_isBase_31 : decode cX8_isBase 31 = .ok (.ireturn, 1) := by decide +kernel
theorem dX8_isBase_32 : decode cX8_isBase 32 = .ok (.lconst 1, 1) := by decide +kernel
theorem dX8_isBase_33 : decode cX8_isBase 33 = .ok (.lstore 4, 2) := by decide +kernel
theorem dX8_isBase_35 : decode cX8_isBase 35 = .ok (.aload_n 0, 1) := by decide +kernel
theorem dX8_isBase_36 : decode cX8_isBase 36 = .ok (.lload 4, 2) := by decide +kernel
theorem dX8_isBase_38 : decode cX8_isBase 38 = .ok (.lconst 0, 1) := by decide +kernel
theorem dX8_isBase_39 : decode cX8_isBase 39 = .ok (.aload_n 0, 1) := by decide +kernel
theorem dX8_isBase_40 : decode cX8_isBase 40 = .ok (.getfield 13, 3) := by decide +kernel
theorem dX8_isBase_43 : decode cX8_isBase 43 = .ok (.iload_n 1, 1) := by decide +kernel
theorem dX8_isBase_44 : decode cX8_isBase 44 = .ok (.laload, 1) := by decide +kernel
theorem dX8_isBase_45 : decode cX8_isBase 45 = .ok (.aload_n 0, 1) := by decide +kernel
theorem dX8_isBase_46 : decode cX8_isBase 46 = .ok (.getfield 17, 3) := by decide +kernel
theorem dX8_isBase_49 : decode cX8_isBase 49 = .ok (.iload_n 1, 1) := by decide +kernel
theorem dX8_isBase_50 : decode cX8_isBase 50 = .ok (.laload, 1) := by decide +kernel
theorem dX8_isBase_51 : decode cX8_isBase 51 = .ok (.invokevirtual 174, 3) := by decide +kernel
theorem dX8_isBase_54 : decode cX8_isBase 54 = .ok (.ifCond .ne 12, 3) := by decide +kernel
theorem dX8_isBase_57 : decode cX8_isBase 57 = .ok (.lload 4, 2) := by decide +kernel
theorem dX8_isBase_59 : decode cX8_isBase 59 = .ok (.lconst 1, 1) := by decide +kernel
theorem dX8_isBase_60 : decode cX8_isBase 60 = .ok (.ladd, 1) := by decide +kernel
theorem dX8_isBase_61 : decode cX8_isBase 61 = .ok (.lstore 4, 2) := by decide +kernel
theorem dX8_isBase_63 : decode cX8_isBase 63 = .ok (.goto (-28), 3) := by decide +kernel
theorem dX8_isBase_66 : decode cX8_isBase 66 = .ok (.lload 4, 2) := by decide +kernel
theorem dX8_isBase_68 : decode cX8_isBase 68 = .ok (.lload_n 2, 1) := by decide +kernel
theorem dX8_isBase_69 : decode cX8_isBase 69 = .ok (.lcmp, 1) := by decide +kernel
theorem dX8_isBase_70 : decode cX8_isBase 70 = .ok (.ifCond .ne 7, 3) := by decide +kernel
theorem dX8_isBase_73 : decode cX8_isBase 73 = .ok (.iconst 1, 1) := by decide +kernel
theorem dX8_isBase_74 : decode cX8_isBase 74 = .ok (.goto 4, 3) := by decide +kernel
theorem dX8_isBase_77 : decode cX8_isBase 77 = .ok (.iconst 0, 1) := by decide +kernel
theorem dX8_isBase_78 : decode cX8_isBase 78 = .ok (.ireturn, 1) := by decide +kernel
theorem dX8_take_0 : decode cX8_take 0 = .ok (.aload_n 0, 1) := by decide +kernel
theorem dX8_take_1 : decode cX8_take 1 = .ok (.getfield 69, 3) := by decide +kernel
theorem dX8_take_4 : decode cX8_take 4 = .ok (.lstore_n 2, 1) := by decide +kernel
theorem dX8_take_5 : decode cX8_take 5 = .ok (.aload_n 0, 1) := by decide +kernel
theorem dX8_take_6 : decode cX8_take 6 = .ok (.getfield 72, 3) := by decide +kernel
theorem dX8_take_9 : decode cX8_take 9 = .ok (.lstore 4, 2) := by decide +kernel
theorem dX8_take_11 : decode cX8_take 11 = .ok (.iconst 0, 1) := by decide +kernel
theorem dX8_take_12 : decode cX8_take 12 = .ok (.istore 6, 2) := by decide +kernel
theorem dX8_take_14 : decode cX8_take 14 = .ok (.aload_n 0, 1) := by decide +kernel
theorem dX8_take_15 : decode cX8_take 15 = .ok (.lload_n 2, 1) := by decide +kernel
theorem dX8_take_16 : decode cX8_take 16 = .ok (.iload 6, 2) := by decide +kernel
theorem dX8_take_18 : decode cX8_take 18 = .ok (.i2l, 1) := by decide +kernel
theorem dX8_take_19 : decode cX8_take 19 = .ok (.lsub, 1) := by decide +kernel
theorem dX8_take_20 : decode cX8_take 20 = .ok (.lload 4, 2) := by decide +kernel
theorem dX8_take_22 : decode cX8_take 22 = .ok (.aload_n 0, 1) := by decide +kernel
theorem dX8_take_23 : decode cX8_take 23 = .ok (.getfield 13, 3) := by decide +kernel
theorem dX8_take_26 : decode cX8_take 26 = .ok (.iload_n 1, 1) := by decide +kernel
theorem dX8_take_27 : decode cX8_take 27 = .ok (.laload, 1) := by decide +kernel
theorem dX8_take_28 : decode cX8_take 28 = .ok (.aload_n 0, 1) := by decide +kernel
theorem dX8_take_29 : decode cX8_take 29 = .ok (.getfield 17, 3) := by decide +kernel
theorem dX8_take_32 : decode cX8_take 32 = .ok (.iload_n 1, 1) := by decide +kernel
theorem dX8_take_33 : decode cX8_take 33 = .ok (.laload, 1) := by decide +kernel
theorem dX8_take_34 : decode cX8_take 34 = .ok (.invokevirtual 174, 3) := by decide +kernel
theorem dX8_take_37 : decode cX8_take 37 = .ok (.ifCond .ne 9, 3) := by decide +kernel
theorem dX8_take_40 : decode cX8_take 40 = .ok (.iinc 6 1, 3) := by decide +kernel
theorem dX8_take_43 : decode cX8_take 43 = .ok (.goto (-29), 3) := by decide +kernel
theorem dX8_take_46 : decode cX8_take 46 = .ok (.aload_n 0, 1) := by decide +kernel
theorem dX8_take_47 : decode cX8_take 47 = .ok (.lload_n 2, 1) := by decide +kernel
theorem dX8_take_48 : decode cX8_take 48 = .ok (.iload 6, 2) := by decide +kernel
theorem dX8_take_50 : decode cX8_take 50 = .ok (.i2l, 1) := by decide +kernel
theorem dX8_take_51 : decode cX8_take 51 = .ok (.lsub, 1) := by decide +kernel
theorem dX8_take_52 : decode cX8_take 52 = .ok (.lload 4, 2) := by decide +kernel
theorem dX8_take_54 : decode cX8_take 54 = .ok (.aload_n 0, 1) := by decide +kernel
theorem dX8_take_55 : decode cX8_take 55 = .ok (.getfield 13, 3) := by decide +kernel
theorem dX8_take_58 : decode cX8_take 58 = .ok (.iload_n 1, 1) := by decide +kernel
theorem dX8_take_59 : decode cX8_take 59 = .ok (.laload, 1) := by decide +kernel
theorem dX8_take_60 : decode cX8_take 60 = .ok (.aload_n 0, 1) := by decide +kernel
theorem dX8_take_61 : decode cX8_take 61 = .ok (.getfield 17, 3) := by decide +kernel
theorem dX8_take_64 : decode cX8_take 64 = .ok (.iload_n 1, 1) := by decide +kernel
theorem dX8_take_65 : decode cX8_take 65 = .ok (.laload, 1) := by decide +kernel
theorem dX8_take_66 : decode cX8_take 66 = .ok (.invokevirtual 123, 3) := by decide +kernel
theorem dX8_take_69 : decode cX8_take 69 = .ok (.aload_n 0, 1) := by decide +kernel
theorem dX8_take_70 : decode cX8_take 70 = .ok (.aload_n 0, 1) := by decide +kernel
theorem dX8_take_71 : decode cX8_take 71 = .ok (.getfield 114, 3) := by decide +kernel
theorem dX8_take_74 : decode cX8_take 74 = .ok (.aload_n 0, 1) := by decide +kernel
theorem dX8_take_75 : decode cX8_take 75 = .ok (.getfield 117, 3) := by decide +kernel
theorem dX8_take_78 : decode cX8_take 78 = .ok (.invokevirtual 75, 3) := by decide +kernel
theorem dX8_take_81 : decode cX8_take 81 = .ok (.iload 6, 2) := by decide +kernel
theorem dX8_take_83 : decode cX8_take 83 = .ok (.ireturn, 1) := by decide +kernel
theorem dX8_seenAt_0 : decode cX8_seenAt 0 = .ok (.iconst 0, 1) := by decide +kernel
theorem dX8_seenAt_1 : decode cX8_seenAt 1 = .ok (.istore_n 1, 1) := by decide +kernel
theorem dX8_seenAt_2 : decode cX8_seenAt 2 = .ok (.iload_n 1, 1) := by decide +kernel
theorem dX8_seenAt_3 : decode cX8_seenAt 3 = .ok (.aload_n 0, 1) := by decide +kernel
theorem dX8_seenAt_4 : decode cX8_seenAt 4 = .ok (.getfield 242, 3) := by decide +kernel
theorem dX8_seenAt_7 : decode cX8_seenAt 7 = .ok (.if_icmp .ge 39, 3) := by decide +kernel
theorem dX8_seenAt_10 : decode cX8_seenAt 10 = .ok (.aload_n 0, 1) := by decide +kernel
theorem dX8_seenAt_11 : decode cX8_seenAt 11 = .ok (.getfield 38, 3) := by decide +kernel
theorem dX8_seenAt_14 : decode cX8_seenAt 14 = .ok (.iload_n 1, 1) := by decide +kernel
theorem dX8_seenAt_15 : decode cX8_seenAt 15 = .ok (.laload, 1) := by decide +kernel
theorem dX8_seenAt_16 : decode cX8_seenAt 16 = .ok (.aload_n 0, 1) := by decide +kernel
theorem dX8_seenAt_17 : decode cX8_seenAt 17 = .ok (.getfield 69, 3) := by decide +kernel
theorem dX8_seenAt_20 : decode cX8_seenAt 20 = .ok (.lcmp, 1) := by decide +kernel
theorem dX8_seenAt_21 : decode cX8_seenAt 21 = .ok (.ifCond .ne 19, 3) := by decide +kernel
theorem dX8_seenAt_24 : decode cX8_seenAt 24 = .ok (.aload_n 0, 1) := by decide +kernel
theorem dX8_seenAt_25 : decode cX8_seenAt 25 = .ok (.getfield 41, 3) := by decide +kernel
theorem dX8_seenAt_28 : decode cX8_seenAt 28 = .ok (.iload_n 1, 1) := by decide +kernel
theorem dX8_seenAt_29 : decode cX8_seenAt 29 = .ok (.laload, 1) := by decide +kernel
theorem dX8_seenAt_30 : decode cX8_seenAt 30 = .ok (.aload_n 0, 1) := by decide +kernel
theorem dX8_seenAt_31 : decode cX8_seenAt 31 = .ok (.getfield 72, 3) := by decide +kernel
theorem dX8_seenAt_34 : decode cX8_seenAt 34 = .ok (.lcmp, 1) := by decide +kernel
theorem dX8_seenAt_35 : decode cX8_seenAt 35 = .ok (.ifCond .ne 5, 3) := by decide +kernel
theorem dX8_seenAt_38 : decode cX8_seenAt 38 = .ok (.iload_n 1, 1) := by decide +kernel
theorem dX8_seenAt_39 : decode cX8_seenAt 39 = .ok (.ireturn, 1) := by decide +kernel
theorem dX8_seenAt_40 : decode cX8_seenAt 40 = .ok (.iinc 1 1, 3) := by decide +kernel
theorem dX8_seenAt_43 : decode cX8_seenAt 43 = .ok (.goto (-41), 3) := by decide +kernel
theorem dX8_seenAt_46 : decode cX8_seenAt 46 = .ok (.bipush (-4), 2) := by decide +kernel
theorem dX8_seenAt_48 : decode cX8_seenAt 48 = .ok (.ireturn, 1) := by decide +kernel
theorem dX8_layDigits_0 : decode cX8_layDigits 0 = .ok (.aload_n 0, 1) := by decide +kernel
theorem dX8_layDigits_1 : decode cX8_layDigits 1 = .ok (.iconst 0, 1) := by decide +kernel
theorem dX8_layDigits_2 : decode cX8_layDigits 2 = .ok (.putfield 242, 3) := by decide +kernel
theorem dX8_layDigits_5 : decode cX8_layDigits 5 = .ok (.aload_n 0, 1) := by decide +kernel
theorem dX8_layDigits_6 : decode cX8_layDigits 6 = .ok (.iconst 0, 1) := by decide +kernel
theorem dX8_layDigits_7 : decode cX8_layDigits 7 = .ok (.putfield 245, 3) := by decide +kernel
theorem dX8_layDigits_10 : decode cX8_layDigits 10 = .ok (.aload_n 0, 1) := by decide +kernel
theorem dX8_layDigits_11 : decode cX8_layDigits 11 = .ok (.lload_n 1, 1) := by decide +kernel
theorem dX8_layDigits_12 : decode cX8_layDigits 12 = .ok (.lload_n 3, 1) := by decide +kernel
theorem dX8_layDigits_13 : decode cX8_layDigits 13 = .ok (.invokevirtual 75, 3) := by decide +kernel
theorem dX8_layDigits_16 : decode cX8_layDigits 16 = .ok (.aload_n 0, 1) := by decide +kernel
theorem dX8_layDigits_17 : decode cX8_layDigits 17 = .ok (.getfield 69, 3) := by decide +kernel
theorem dX8_layDigits_20 : decode cX8_layDigits 20 = .ok (.lconst 0, 1) := by decide +kernel
theorem dX8_layDigits_21 : decode cX8_layDigits 21 = .ok (.lcmp, 1) := by decide +kernel
theorem dX8_layDigits_22 : decode cX8_layDigits 22 = .ok (.ifCond .ne 12, 3) := by decide +kernel
theorem dX8_layDigits_25 : decode cX8_layDigits 25 = .ok (.aload_n 0, 1) := by decide +kernel
theorem dX8_layDigits_26 : decode cX8_layDigits 26 = .ok (.getfield 72, 3) := by decide +kernel
theorem dX8_layDigits_29 : decode cX8_layDigits 29 = .ok (.lconst 0, 1) := by decide +kernel
theorem dX8_layDigits_30 : decode cX8_layDigits 30 = .ok (.lcmp, 1) := by decide +kernel
theorem dX8_layDigits_31 : decode cX8_layDigits 31 = .ok (.ifCond .eq 84, 3) := by decide +kernel
theorem dX8_layDigits_34 : decode cX8_layDigits 34 = .ok (.aload_n 0, 1) := by decide +kernel
theorem dX8_layDigits_35 : decode cX8_layDigits 35 = .ok (.invokevirtual 248, 3) := by decide +kernel
theorem dX8_layDigits_38 : decode cX8_layDigits 38 = .ok (.bipush (-4), 2) := by decide +kernel
theorem dX8_layDigits_40 : decode cX8_layDigits 40 = .ok (.if_icmp .ne 75, 3) := by decide +kernel
theorem dX8_layDigits_43 : decode cX8_layDigits 43 = .ok (.aload_n 0, 1) := by decide +kernel
theorem dX8_layDigits_44 : decode cX8_layDigits 44 = .ok (.getfield 38, 3) := by decide +kernel
theorem dX8_layDigits_47 : decode cX8_layDigits 47 = .ok (.aload_n 0, 1) := by decide +kernel
theorem dX8_layDigits_48 : decode cX8_layDigits 48 = .ok (.getfield 242, 3) := by decide +kernel
theorem dX8_layDigits_51 : decode cX8_layDigits 51 = .ok (.aload_n 0, 1) := by decide +kernel
theorem dX8_layDigits_52 : decode cX8_layDigits 52 = .ok (.getfield 69, 3) := by decide +kernel
theorem dX8_layDigits_55 : decode cX8_layDigits 55 = .ok (.lastore, 1) := by decide +kernel
theorem dX8_layDigits_56 : decode cX8_layDigits 56 = .ok (.aload_n 0, 1) := by decide +kernel
theorem dX8_layDigits_57 : decode cX8_layDigits 57 = .ok (.getfield 41, 3) := by decide +kernel
theorem dX8_layDigits_60 : decode cX8_layDigits 60 = .ok (.aload_n 0, 1) := by decide +kernel
theorem dX8_layDigits_61 : decode cX8_layDigits 61 = .ok (.getfield 242, 3) := by decide +kernel
theorem dX8_layDigits_64 : decode cX8_layDigits 64 = .ok (.aload_n 0, 1) := by decide +kernel
theorem dX8_layDigits_65 : decode cX8_layDigits 65 = .ok (.getfield 72, 3) := by decide +kernel
theorem dX8_layDigits_68 : decode cX8_layDigits 68 = .ok (.lastore, 1) := by decide +kernel
theorem dX8_layDigits_69 : decode cX8_layDigits 69 = .ok (.aload_n 0, 1) := by decide +kernel
theorem dX8_layDigits_70 : decode cX8_layDigits 70 = .ok (.getfield 44, 3) := by decide +kernel
theorem dX8_layDigits_73 : decode cX8_layDigits 73 = .ok (.aload_n 0, 1) := by decide +kernel
theorem dX8_layDigits_74 : decode cX8_layDigits 74 = .ok (.getfield 242, 3) := by decide +kernel
theorem dX8_layDigits_77 : decode cX8_layDigits 77 = .ok (.aload_n 0, 1) := by decide +kernel
theorem dX8_layDigits_78 : decode cX8_layDigits 78 = .ok (.iload 5, 2) := by decide +kernel
theorem dX8_layDigits_80 : decode cX8_layDigits 80 = .ok (.invokevirtual 252, 3) := by decide +kernel
theorem dX8_layDigits_83 : decode cX8_layDigits 83 = .ok (.iastore, 1) := by decide +kernel
theorem dX8_layDigits_84 : decode cX8_layDigits 84 = .ok (.aload_n 0, 1) := by decide +kernel
theorem dX8_layDigits_85 : decode cX8_layDigits 85 = .ok (.dup, 1) := by decide +kernel
theorem dX8_layDigits_86 : decode cX8_layDigits 86 = .ok (.getfield 245, 3) := by decide +kernel
theorem dX8_layDigits_89 : decode cX8_layDigits 89 = .ok (.aload_n 0, 1) := by decide +kernel
theorem dX8_layDigits_90 : decode cX8_layDigits 90 = .ok (.getfield 44, 3) := by decide +kernel
theorem dX8_layDigits_93 : decode cX8_layDigits 93 = .ok (.aload_n 0, 1) := by decide +kernel
theorem dX8_layDigits_94 : decode cX8_layDigits 94 = .ok (.getfield 242, 3) := by decide +kernel
theorem dX8_layDigits_97 : decode cX8_layDigits 97 = .ok (.iaload, 1) := by decide +kernel
theorem dX8_layDigits_98 : decode cX8_layDigits 98 = .ok (.iadd, 1) := by decide +kernel
theorem dX8_layDigits_99 : decode cX8_layDigits 99 = .ok (.putfield 245, 3) := by decide +kernel
theorem dX8_layDigits_102 : decode cX8_layDigits 102 = .ok (.aload_n 0, 1) := by decide +kernel
theorem dX8_layDigits_103 : decode cX8_layDigits 103 = .ok (.dup, 1) := by decide +kernel
theorem dX8_layDigits_104 : decode cX8_layDigits 104 = .ok (.getfield 242, 3) := by decide +kernel
theorem dX8_layDigits_107 : decode cX8_layDigits 107 = .ok (.iconst 1, 1) := by decide +kernel
theorem dX8_layDigits_108 : decode cX8_layDigits 108 = .ok (.iadd, 1) := by decide +kernel
theorem dX8_layDigits_109 : decode cX8_layDigits 109 = .ok (.putfield 242, 3) := by decide +kernel
theorem dX8_layDigits_112 : decode cX8_layDigits 112 = .ok (.goto (-96), 3) := by decide +kernel
theorem dX8_layDigits_115 : decode cX8_layDigits 115 = .ok (.aload_n 0, 1) := by decide +kernel
theorem dX8_layDigits_116 : decode cX8_layDigits 116 = .ok (.getfield 69, 3) := by decide +kernel
theorem dX8_layDigits_119 : decode cX8_layDigits 119 = .ok (.lconst 0, 1) := by decide +kernel
theorem dX8_layDigits_120 : decode cX8_layDigits 120 = .ok (.lcmp, 1) := by decide +kernel
theorem dX8_layDigits_121 : decode cX8_layDigits 121 = .ok (.ifCond .ne 16, 3) := by decide +kernel
theorem dX8_layDigits_124 : decode cX8_layDigits 124 = .ok (.aload_n 0, 1) := by decide +kernel
theorem dX8_layDigits_125 : decode cX8_layDigits 125 = .ok (.getfield 72, 3) := by decide +kernel
theorem dX8_layDigits_128 : decode cX8_layDigits 128 = .ok (.lconst 0, 1) := by decide +kernel
theorem dX8_layDigits_129 : decode cX8_layDigits 129 = .ok (.lcmp, 1) := by decide +kernel
theorem dX8_layDigits_130 : decode cX8_layDigits 130 = .ok (.ifCond .ne 7, 3) := by decide +kernel
theorem dX8_layDigits_133 : decode cX8_layDigits 133 = .ok (.iconst 1, 1) := by decide +kernel
theorem dX8_layDigits_134 : decode cX8_layDigits 134 = .ok (.goto 4, 3) := by decide +kernel
theorem dX8_layDigits_137 : decode cX8_layDigits 137 = .ok (.iconst 0, 1) := by decide +kernel
theorem dX8_layDigits_138 : decode cX8_layDigits 138 = .ok (.istore 6, 2) := by decide +kernel
theorem dX8_layDigits_140 : decode cX8_layDigits 140 = .ok (.aload_n 0, 1) := by decide +kernel
theorem dX8_layDigits_141 : decode cX8_layDigits 141 = .ok (.iload 6, 2) := by decide +kernel
theorem dX8_layDigits_143 : decode cX8_layDigits 143 = .ok (.ifCond .eq 10, 3) := by decide +kernel
theorem dX8_layDigits_146 : decode cX8_layDigits 146 = .ok (.aload_n 0, 1) := by decide +kernel
theorem dX8_layDigits_147 : decode cX8_layDigits 147 = .ok (.getfield 242, 3) := by decide +kernel
theorem dX8_layDigits_150 : decode cX8_layDigits 150 = .ok (.goto 7, 3) := by decide +kernel
theorem dX8_layDigits_153 : decode cX8_layDigits 153 = .ok (.aload_n 0, 1) := by decide +kernel
theorem dX8_layDigits_154 : decode cX8_layDigits 154 = .ok (.invokevirtual 248, 3) := by decide +kernel
theorem dX8_layDigits_157 : decode cX8_layDigits 157 = .ok (.putfield 255, 3) := by decide +kernel
theorem dX8_layDigits_160 : decode cX8_layDigits 160 = .ok (.aload_n 0, 1) := by decide +kernel
theorem dX8_layDigits_161 : decode cX8_layDigits 161 = .ok (.aload_n 0, 1) := by decide +kernel
theorem dX8_layDigits_162 : decode cX8_layDigits 162 = .ok (.getfield 242, 3) := by decide +kernel
theorem dX8_layDigits_165 : decode cX8_layDigits 165 = .ok (.aload_n 0, 1) := by decide +kernel
theorem dX8_layDigits_166 : decode cX8_layDigits 166 = .ok (.getfield 255, 3) := by decide +kernel
theorem dX8_layDigits_169 : decode cX8_layDigits 169 = .ok (.isub, 1) := by decide +kernel
theorem dX8_layDigits_170 : decode cX8_layDigits 170 = .ok (.putfield 258, 3) := by decide +kernel
theorem dX8_layDigits_173 : decode cX8_layDigits 173 = .ok (.return_, 1) := by decide +kernel
theorem dX8_digit_0 : decode cX8_digit 0 = .ok (.iload_n 1, 1) := by decide +kernel
theorem dX8_digit_1 : decode cX8_digit 1 = .ok (.invokestatic 92, 3) := by decide +kernel
theorem dX8_digit_4 : decode cX8_digit 4 = .ok (.ifCond .eq 14, 3) := by decide +kernel
theorem dX8_digit_7 : decode cX8_digit 7 = .ok (.iload_n 2, 1) := by decide +kernel
theorem dX8_digit_8 : decode cX8_digit 8 = .ok (.invokestatic 92, 3) := by decide +kernel
theorem dX8_digit_11 : decode cX8_digit 11 = .ok (.ifCond .eq 7, 3) := by decide +kernel
theorem dX8_digit_14 : decode cX8_digit 14 = .ok (.iload_n 3, 1) := by decide +kernel
theorem dX8_digit_15 : decode cX8_digit 15 = .ok (.ifCond .ge 5, 3) := by decide +kernel
theorem dX8_digit_18 : decode cX8_digit 18 = .ok (.iconst (-1), 1) := by decide +kernel
theorem dX8_digit_19 : decode cX8_digit 19 = .ok (.ireturn, 1) := by decide +kernel
theorem dX8_digit_20 : decode cX8_digit 20 = .ok (.aload_n 0, 1) := by decide +kernel
theorem dX8_digit_21 : decode cX8_digit 21 = .ok (.iload_n 2, 1) := by decide +kernel
theorem dX8_digit_22 : decode cX8_digit 22 = .ok (.invokevirtual 261, 3) := by decide +kernel
theorem dX8_digit_25 : decode cX8_digit 25 = .ok (.ifCond .ne 6, 3) := by decide +kernel
theorem dX8_digit_28 : decode cX8_digit 28 = .ok (.bipush (-2), 2) := by decide +kernel
theorem dX8_digit_30 : decode cX8_digit 30 = .ok (.ireturn, 1) := by decide +kernel
theorem dX8_digit_31 : decode cX8_digit 31 = .ok (.aload_n 0, 1) := by decide +kernel
theorem dX8_digit_32 : decode cX8_digit 32 = .ok (.aload_n 0, 1) := by decide +kernel
theorem dX8_digit_33 : decode cX8_digit 33 = .ok (.getfield 13, 3) := by decide +kernel
theorem dX8_digit_36 : decode cX8_digit 36 = .ok (.iload_n 1, 1) := by decide +kernel
theorem dX8_digit_37 : decode cX8_digit 37 = .ok (.laload, 1) := by decide +kernel
theorem dX8_digit_38 : decode cX8_digit 38 = .ok (.aload_n 0, 1) := by decide +kernel
theorem dX8_digit_39 : decode cX8_digit 39 = .ok (.getfield 17, 3) := by decide +kernel
theorem dX8_digit_42 : decode cX8_digit 42 = .ok (.iload_n 1, 1) := by decide +kernel
theorem dX8_digit_43 : decode cX8_digit 43 = .ok (.laload, 1) := by decide +kernel
theorem dX8_digit_44 : decode cX8_digit 44 = .ok (.iload_n 2, 1) := by decide +kernel
theorem dX8_digit_45 : decode cX8_digit 45 = .ok (.invokevirtual 264, 3) := by decide +kernel
theorem dX8_digit_48 : decode cX8_digit 48 = .ok (.iload_n 3, 1) := by decide +kernel
theorem dX8_digit_49 : decode cX8_digit 49 = .ok (.aload_n 0, 1) := by decide +kernel
theorem dX8_digit_50 : decode cX8_digit 50 = .ok (.getfield 242, 3) := by decide +kernel
theorem dX8_digit_53 : decode cX8_digit 53 = .ok (.if_icmp .ge 10, 3) := by decide +kernel
theorem dX8_digit_56 : decode cX8_digit 56 = .ok (.aload_n 0, 1) := by decide +kernel
theorem dX8_digit_57 : decode cX8_digit 57 = .ok (.getfield 44, 3) := by decide +kernel
theorem dX8_digit_60 : decode cX8_digit 60 = .ok (.iload_n 3, 1) := by decide +kernel
theorem dX8_digit_61 : decode cX8_digit 61 = .ok (.iaload, 1) := by decide +kernel
theorem dX8_digit_62 : decode cX8_digit 62 = .ok (.ireturn, 1) := by decide +kernel
theorem dX8_digit_63 : decode cX8_digit 63 = .ok (.aload_n 0, 1) := by decide +kernel
theorem dX8_digit_64 : decode cX8_digit 64 = .ok (.getfield 258, 3) := by decide +kernel
theorem dX8_digit_67 : decode cX8_digit 67 = .ok (.ifCond .ne 7, 3) := by decide +kernel
theorem dX8_digit_70 : decode cX8_digit 70 = .ok (.iconst 0, 1) := by decide +kernel
theorem dX8_digit_71 : decode cX8_digit 71 = .ok (.goto 24, 3) := by decide +kernel
theorem dX8_digit_74 : decode cX8_digit 74 = .ok (.aload_n 0, 1) := by decide +kernel
theorem dX8_digit_75 : decode cX8_digit 75 = .ok (.getfield 44, 3) := by decide +kernel
theorem dX8_digit_78 : decode cX8_digit 78 = .ok (.aload_n 0, 1) := by decide +kernel
theorem dX8_digit_79 : decode cX8_digit 79 = .ok (.getfield 255, 3) := by decide +kernel
theorem dX8_digit_82 : decode cX8_digit 82 = .ok (.iload_n 3, 1) := by decide +kernel
theorem dX8_digit_83 : decode cX8_digit 83 = .ok (.aload_n 0, 1) := by decide +kernel
theorem dX8_digit_84 : decode cX8_digit 84 = .ok (.getfield 255, 3) := by decide +kernel
theorem dX8_digit_87 : decode cX8_digit 87 = .ok (.isub, 1) := by decide +kernel
theorem dX8_digit_88 : decode cX8_digit 88 = .ok (.aload_n 0, 1) := by decide +kernel
theorem dX8_digit_89 : decode cX8_digit 89 = .ok (.getfield 258, 3) := by decide +kernel
theorem dX8_digit_92 : decode cX8_digit 92 = .ok (.irem, 1) := by decide +kernel
theorem dX8_digit_93 : decode cX8_digit 93 = .ok (.iadd, 1) := by decide +kernel
theorem dX8_digit_94 : decode cX8_digit 94 = .ok (.iaload, 1) := by decide +kernel
theorem dX8_digit_95 : decode cX8_digit 95 = .ok (.ireturn, 1) := by decide +kernel
theorem dX8_digits_0 : decode cX8_digits 0 = .ok (.iload_n 1, 1) := by decide +kernel
theorem dX8_digits_1 : decode cX8_digits 1 = .ok (.invokestatic 92, 3) := by decide +kernel
theorem dX8_digits_4 : decode cX8_digits 4 = .ok (.ifCond .eq 22, 3) := by decide +kernel
theorem dX8_digits_7 : decode cX8_digits 7 = .ok (.iload_n 2, 1) := by decide +kernel
theorem dX8_digits_8 : decode cX8_digits 8 = .ok (.invokestatic 92, 3) := by decide +kernel
theorem dX8_digits_11 : decode cX8_digits 11 = .ok (.ifCond .eq 15, 3) := by decide +kernel
theorem dX8_digits_14 : decode cX8_digits 14 = .ok (.iload_n 3, 1) := by decide +kernel
theorem dX8_digits_15 : decode cX8_digits 15 = .ok (.i2l, 1) := by decide +kernel
theorem dX8_digits_16 : decode cX8_digits 16 = .ok (.lconst 0, 1) := by decide +kernel
theorem dX8_digits_17 : decode cX8_digits 17 = .ok (.ldc2_w 85, 3) := by decide +kernel
theorem dX8_digits_20 : decode cX8_digits 20 = .ok (.invokestatic 62, 3) := by decide +kernel
theorem dX8_digits_23 : decode cX8_digits 23 = .ok (.ifCond .ne 5, 3) := by decide +kernel
theorem dX8_digits_26 : decode cX8_digits 26 = .ok (.iconst (-1), 1) := by decide +kernel
theorem dX8_digits_27 : decode cX8_digits 27 = .ok (.ireturn, 1) := by decide +kernel
theorem dX8_digits_28 : decode cX8_digits 28 = .ok (.aload_n 0, 1) := by decide +kernel
theorem dX8_digits_29 : decode cX8_digits 29 = .ok (.iload_n 2, 1) := by decide +kernel
theorem dX8_digits_30 : decode cX8_digits 30 = .ok (.invokevirtual 261, 3) := by decide +kernel
theorem dX8_digits_33 : decode cX8_digits 33 = .ok (.ifCond .ne 6, 3) := by decide +kernel
theorem dX8_digits_36 : decode cX8_digits 36 = .ok (.bipush (-2), 2) := by decide +kernel
theorem dX8_digits_38 : decode cX8_digits 38 = .ok (.ireturn, 1) := by decide +kernel
theorem dX8_digits_39 : decode cX8_digits 39 = .ok (.aload_n 0, 1) := by decide +kernel
theorem dX8_digits_40 : decode cX8_digits 40 = .ok (.aload_n 0, 1) := by decide +kernel
theorem dX8_digits_41 : decode cX8_digits 41 = .ok (.getfield 13, 3) := by decide +kernel
theorem dX8_digits_44 : decode cX8_digits 44 = .ok (.iload_n 1, 1) := by decide +kernel
theorem dX8_digits_45 : decode cX8_digits 45 = .ok (.laload, 1) := by decide +kernel
theorem dX8_digits_46 : decode cX8_digits 46 = .ok (.aload_n 0, 1) := by decide +kernel
theorem dX8_digits_47 : decode cX8_digits 47 = .ok (.getfield 17, 3) := by decide +kernel
theorem dX8_digits_50 : decode cX8_digits 50 = .ok (.iload_n 1, 1) := by decide +kernel
theorem dX8_digits_51 : decode cX8_digits 51 = .ok (.laload, 1) := by decide +kernel
theorem dX8_digits_52 : decode cX8_digits 52 = .ok (.iload_n 2, 1) := by decide +kernel
theorem dX8_digits_53 : decode cX8_digits 53 = .ok (.invokevirtual 264, 3) := by decide +kernel
theorem dX8_digits_56 : decode cX8_digits 56 = .ok (.iload_n 3, 1) := by decide +kernel
theorem dX8_digits_57 : decode cX8_digits 57 = .ok (.ifCond .ne 10, 3) := by decide +kernel
theorem dX8_digits_60 : decode cX8_digits 60 = .ok (.aload_n 0, 1) := by decide +kernel
theorem dX8_digits_61 : decode cX8_digits 61 = .ok (.getfield 255, 3) := by decide +kernel
theorem dX8_digits_64 : decode cX8_digits 64 = .ok (.goto 19, 3) := by decide +kernel
theorem dX8_digits_67 : decode cX8_digits 67 = .ok (.iload_n 3, 1) := by decide +kernel
theorem dX8_digits_68 : decode cX8_digits 68 = .ok (.iconst 1, 1) := by decide +kernel
theorem dX8_digits_69 : decode cX8_digits 69 = .ok (.if_icmp .ne 10, 3) := by decide +kernel
theorem dX8_digits_72 : decode cX8_digits 72 = .ok (.aload_n 0, 1) := by decide +kernel
theorem dX8_digits_73 : decode cX8_digits 73 = .ok (.getfield 258, 3) := by decide +kernel
theorem dX8_digits_76 : decode cX8_digits 76 = .ok (.goto 7, 3) := by decide +kernel
theorem dX8_digits_79 : decode cX8_digits 79 = .ok (.aload_n 0, 1) := by decide +kernel
theorem dX8_digits_80 : decode cX8_digits 80 = .ok (.getfield 245, 3) := by decide +kernel
theorem dX8_digits_83 : decode cX8_digits 83 = .ok (.ireturn, 1) := by decide +kernel
theorem dX8_rounds_0 : decode cX8_rounds 0 = .ok (.iload_n 1, 1) := by decide +kernel
theorem dX8_rounds_1 : decode cX8_rounds 1 = .ok (.invokestatic 92, 3) := by decide +kernel
theorem dX8_rounds_4 : decode cX8_rounds 4 = .ok (.ifCond .eq 13, 3) := by decide +kernel
theorem dX8_rounds_7 : decode cX8_rounds 7 = .ok (.iload_n 2, 1) := by decide +kernel
theorem dX8_rounds_8 : decode cX8_rounds 8 = .ok (.i2l, 1) := by decide +kernel
theorem dX8_rounds_9 : decode cX8_rounds 9 = .ok (.lconst 0, 1) := by decide +kernel
theorem dX8_rounds_10 : decode cX8_rounds 10 = .ok (.lconst 1, 1) := by decide +kernel
theorem dX8_rounds_11 : decode cX8_rounds 11 = .ok (.invokestatic 62, 3) := by decide +kernel
theorem dX8_rounds_14 : decode cX8_rounds 14 = .ok (.ifCond .ne 5, 3) := by decide +kernel
theorem dX8_rounds_17 : decode cX8_rounds 17 = .ok (.iconst (-1), 1) := by decide +kernel
theorem dX8_rounds_18 : decode cX8_rounds 18 = .ok (.ireturn, 1) := by decide +kernel
theorem dX8_rounds_19 : decode cX8_rounds 19 = .ok (.aload_n 0, 1) := by decide +kernel
theorem dX8_rounds_20 : decode cX8_rounds 20 = .ok (.iload_n 1, 1) := by decide +kernel
theorem dX8_rounds_21 : decode cX8_rounds 21 = .ok (.invokevirtual 261, 3) := by decide +kernel
theorem dX8_rounds_24 : decode cX8_rounds 24 = .ok (.ifCond .ne 6, 3) := by decide +kernel
theorem dX8_rounds_27 : decode cX8_rounds 27 = .ok (.bipush (-2), 2) := by decide +kernel
theorem dX8_rounds_29 : decode cX8_rounds 29 = .ok (.ireturn, 1) := by decide +kernel
theorem dX8_rounds_30 : decode cX8_rounds 30 = .ok (.iconst 1, 1) := by decide +kernel
theorem dX8_rounds_31 : decode cX8_rounds 31 = .ok (.istore_n 3, 1) := by decide +kernel
theorem dX8_rounds_32 : decode cX8_rounds 32 = .ok (.iconst 1, 1) := by decide +kernel
theorem dX8_rounds_33 : decode cX8_rounds 33 = .ok (.istore 4, 2) := by decide +kernel
theorem dX8_rounds_35 : decode cX8_rounds 35 = .ok (.ldc2_w 268, 3) := by decide +kernel
theorem dX8_rounds_38 : decode cX8_rounds 38 = .ok (.lstore 5, 2) := by decide +kernel
theorem dX8_rounds_40 : decode cX8_rounds 40 = .ok (.lload 5, 2) := by decide +kernel
theorem dX8_rounds_42 : decode cX8_rounds 42 = .ok (.ldc2_w 270, 3) := by decide +kernel
theorem dX8_rounds_45 : decode cX8_rounds 45 = .ok (.lcmp, 1) := by decide +kernel
theorem dX8_rounds_46 : decode cX8_rounds 46 = .ok (.ifCond .gt 175, 3) := by decide +kernel
theorem dX8_rounds_49 : decode cX8_rounds 49 = .ok (.ldc2_w 268, 3) := by decide +kernel
theorem dX8_rounds_52 : decode cX8_rounds 52 = .ok (.lstore 7, 2) := by decide +kernel
theorem dX8_rounds_54 : decode cX8_rounds 54 = .ok (.lload 7, 2) := by decide +kernel
theorem dX8_rounds_56 : decode cX8_rounds 56 = .ok (.ldc2_w 270, 3) := by decide +kernel
theorem dX8_rounds_59 : decode cX8_rounds 59 = .ok (.lcmp, 1) := by decide +kernel
theorem dX8_rounds_60 : decode cX8_rounds 60 = .ok (.ifCond .gt 152, 3) := by decide +kernel
theorem dX8_rounds_63 : decode cX8_rounds 63 = .ok (.lload 5, 2) := by decide +kernel
theorem dX8_rounds_65 : decode cX8_rounds 65 = .ok (.lconst 0, 1) := by decide +kernel
theorem dX8_rounds_66 : decode cX8_rounds 66 = .ok (.lcmp, 1) := by decide +kernel
theorem dX8_rounds_67 : decode cX8_rounds 67 = .ok (.ifCond .ne 10, 3) := by decide +kernel
theorem dX8_rounds_70 : decode cX8_rounds 70 = .ok (.lload 7, 2) := by decide +kernel
theorem dX8_rounds_72 : decode cX8_rounds 72 = .ok (.lconst 0, 1) := by decide +kernel
theorem dX8_rounds_73 : decode cX8_rounds 73 = .ok (.lcmp, 1) := by decide +kernel
theorem dX8_rounds_74 : decode cX8_rounds 74 = .ok (.ifCond .eq 129, 3) := by decide +kernel
theorem dX8_rounds_77 : decode cX8_rounds 77 = .ok (.aload_n 0, 1) := by decide +kernel
theorem dX8_rounds_78 : decode cX8_rounds 78 = .ok (.lload 5, 2) := by decide +kernel
theorem dX8_rounds_80 : decode cX8_rounds 80 = .ok (.lload 7, 2) := by decide +kernel
theorem dX8_rounds_82 : decode cX8_rounds 82 = .ok (.invokevirtual 79, 3) := by decide +kernel
theorem dX8_rounds_85 : decode cX8_rounds 85 = .ok (.ldc2_w 272, 3) := by decide +kernel
theorem dX8_rounds_88 : decode cX8_rounds 88 = .ok (.lcmp, 1) := by decide +kernel
theorem dX8_rounds_89 : decode cX8_rounds 89 = .ok (.ifCond .gt 114, 3) := by decide +kernel
theorem dX8_rounds_92 : decode cX8_rounds 92 = .ok (.aload_n 0, 1) := by decide +kernel
theorem dX8_rounds_93 : decode cX8_rounds 93 = .ok (.lload 5, 2) := by decide +kernel
theorem dX8_rounds_95 : decode cX8_rounds 95 = .ok (.lload 7, 2) := by decide +kernel
theorem dX8_rounds_97 : decode cX8_rounds 97 = .ok (.iload_n 1, 1) := by decide +kernel
theorem dX8_rounds_98 : decode cX8_rounds 98 = .ok (.invokevirtual 264, 3) := by decide +kernel
theorem dX8_rounds_101 : decode cX8_rounds 101 = .ok (.aload_n 0, 1) := by decide +kernel
theorem dX8_rounds_102 : decode cX8_rounds 102 = .ok (.getfield 258, 3) := by decide +kernel
theorem dX8_rounds_105 : decode cX8_rounds 105 = .ok (.ifCond .le 98, 3) := by decide +kernel
theorem dX8_rounds_108 : decode cX8_rounds 108 = .ok (.aload_n 0, 1) := by decide +kernel
theorem dX8_rounds_109 : decode cX8_rounds 109 = .ok (.getfield 255, 3) := by decide +kernel
theorem dX8_rounds_112 : decode cX8_rounds 112 = .ok (.ifCond .ne 91, 3) := by decide +kernel
theorem dX8_rounds_115 : decode cX8_rounds 115 = .ok (.iinc 4 1, 3) := by decide +kernel
theorem dX8_rounds_118 : decode cX8_rounds 118 = .ok (.iconst 1, 1) := by decide +kernel
theorem dX8_rounds_119 : decode cX8_rounds 119 = .ok (.istore 9, 2) := by decide +kernel
theorem dX8_rounds_121 : decode cX8_rounds 121 = .ok (.iconst 1, 1) := by decide +kernel
theorem dX8_rounds_122 : decode cX8_rounds 122 = .ok (.istore 10, 2) := by decide +kernel
theorem dX8_rounds_124 : decode cX8_rounds 124 = .ok (.iload 10, 2) := by decide +kernel
theorem dX8_rounds_126 : decode cX8_rounds 126 = .ok (.aload_n 0, 1) := by decide +kernel
theorem dX8_rounds_127 : decode cX8_rounds 127 = .ok (.getfield 258, 3) := by decide +kernel
theorem dX8_rounds_130 : decode cX8_rounds 130 = .ok (.if_icmp .ge 60, 3) := by decide +kernel
theorem dX8_rounds_133 : decode cX8_rounds 133 = .ok (.iload 9, 2) := by decide +kernel
theorem dX8_rounds_135 : decode cX8_rounds 135 = .ok (.ifCond .eq 46, 3) := by decide +kernel
theorem dX8_rounds_138 : decode cX8_rounds 138 = .ok (.aload_n 0, 1) := by decide +kernel
theorem dX8_rounds_139 : decode cX8_rounds 139 = .ok (.getfield 38, 3) := by decide +kernel
theorem dX8_rounds_142 : decode cX8_rounds 142 = .ok (.iload 10, 2) := by decide +kernel
theorem dX8_rounds_144 : decode cX8_rounds 144 = .ok (.laload, 1) := by decide +kernel
theorem dX8_rounds_145 : decode cX8_rounds 145 = .ok (.lload 5, 2) := by decide +kernel
theorem dX8_rounds_147 : decode cX8_rounds 147 = .ok (.lcmp, 1) := by decide +kernel
theorem dX8_rounds_148 : decode cX8_rounds 148 = .ok (.ifCond .gt 29, 3) := by decide +kernel
theorem dX8_rounds_151 : decode cX8_rounds 151 = .ok (.aload_n 0, 1) := by decide +kernel
theorem dX8_rounds_152 : decode cX8_rounds 152 = .ok (.getfield 38, 3) := by decide +kernel
theorem dX8_rounds_155 : decode cX8_rounds 155 = .ok (.iload 10, 2) := by decide +kernel
theorem dX8_rounds_157 : decode cX8_rounds 157 = .ok (.laload, 1) := by decide +kernel
theorem dX8_rounds_158 : decode cX8_rounds 158 = .ok (.lload 5, 2) := by decide +kernel
theorem dX8_rounds_160 : decode cX8_rounds 160 = .ok (.lcmp, 1) := by decide +kernel
theorem dX8_rounds_161 : decode cX8_rounds 161 = .ok (.ifCond .ne 20, 3) := by decide +kernel
theorem dX8_rounds_164 : decode cX8_rounds 164 = .ok (.aload_n 0, 1) := by decide +kernel
theorem dX8_rounds_165 : decode cX8_rounds 165 = .ok (.getfield 41, 3) := by decide +kernel
theorem dX8_rounds_168 : decode cX8_rounds 168 = .ok (.iload 10, 2) := by decide +kernel
theorem dX8_rounds_170 : decode cX8_rounds 170 = .ok (.laload, 1) := by decide +kernel
theorem dX8_rounds_171 : decode cX8_rounds 171 = .ok (.lload 7, 2) := by decide +kernel
theorem dX8_rounds_173 : decode cX8_rounds 173 = .ok (.lcmp, 1) := by decide +kernel
theorem dX8_rounds_174 : decode cX8_rounds 174 = .ok (.ifCond .le 7, 3) := by decide +kernel
theorem dX8_rounds_177 : decode cX8_rounds 177 = .ok (.iconst 1, 1) := by decide +kernel
theorem dX8_rounds_178 : decode cX8_rounds 178 = .ok (.goto 4, 3) := by decide +kernel
theorem dX8_rounds_181 : decode cX8_rounds 181 = .ok (.iconst 0, 1) := by decide +kernel
theorem dX8_rounds_182 : decode cX8_rounds 182 = .ok (.istore 9, 2) := by decide +kernel
theorem dX8_rounds_184 : decode cX8_rounds 184 = .ok (.iinc 10 1, 3) := by decide +kernel
theorem dX8_rounds_187 : decode cX8_rounds 187 = .ok (.goto (-63), 3) := by decide +kernel
theorem dX8_rounds_190 : decode cX8_rounds 190 = .ok (.iload_n 3, 1) := by decide +kernel
theorem dX8_rounds_191 : decode cX8_rounds 191 = .ok (.iload 9, 2) := by decide +kernel
theorem dX8_rounds_193 : decode cX8_rounds 193 = .ok (.ifCond .eq 7, 3) := by decide +kernel
theorem dX8_rounds_196 : decode cX8_rounds 196 = .ok (.iconst 1, 1) := by decide +kernel
theorem dX8_rounds_197 : decode cX8_rounds 197 = .ok (.goto 4, 3) := by decide +kernel
theorem dX8_rounds_200 : decode cX8_rounds 200 = .ok (.iconst 0, 1) := by decide +kernel
theorem dX8_rounds_201 : decode cX8_rounds 201 = .ok (.iadd, 1) := by decide +kernel
theorem dX8_rounds_202 : decode cX8_rounds 202 = .ok (.istore_n 3, 1) := by decide +kernel
theorem dX8_rounds_203 : decode cX8_rounds 203 = .ok (.lload 7, 2) := by decide +kernel
theorem dX8_rounds_205 : decode cX8_rounds 205 = .ok (.lconst 1, 1) := by decide +kernel
theorem dX8_rounds_206 : decode cX8_rounds 206 = .ok (.ladd, 1) := by decide +kernel
theorem dX8_rounds_207 : decode cX8_rounds 207 = .ok (.lstore 7, 2) := by decide +kernel
theorem dX8_rounds_209 : decode cX8_rounds 209 = .ok (.goto (-155), 3) := by decide +kernel
theorem dX8_rounds_212 : decode cX8_rounds 212 = .ok (.lload 5, 2) := by decide +kernel
theorem dX8_rounds_214 : decode cX8_rounds 214 = .ok (.lconst 1, 1) := by decide +kernel
theorem dX8_rounds_215 : decode cX8_rounds 215 = .ok (.ladd, 1) := by decide +kernel
theorem dX8_rounds_216 : decode cX8_rounds 216 = .ok (.lstore 5, 2) := by decide +kernel
theorem dX8_rounds_218 : decode cX8_rounds 218 = .ok (.goto (-178), 3) := by decide +kernel
theorem dX8_rounds_221 : decode cX8_rounds 221 = .ok (.iload_n 2, 1) := by decide +kernel
theorem dX8_rounds_222 : decode cX8_rounds 222 = .ok (.ifCond .ne 7, 3) := by decide +kernel
theorem dX8_rounds_225 : decode cX8_rounds 225 = .ok (.iload_n 3, 1) := by decide +kernel
theorem dX8_rounds_226 : decode cX8_rounds 226 = .ok (.goto 5, 3) := by decide +kernel
theorem dX8_rounds_229 : decode cX8_rounds 229 = .ok (.iload 4, 2) := by decide +kernel
theorem dX8_rounds_231 : decode cX8_rounds 231 = .ok (.ireturn, 1) := by decide +kernel
theorem dX8_isFlock_0 : decode cX8_isFlock 0 = .ok (.iload_n 0, 1) := by decide +kernel
theorem dX8_isFlock_1 : decode cX8_isFlock 1 = .ok (.i2l, 1) := by decide +kernel
theorem dX8_isFlock_2 : decode cX8_isFlock 2 = .ok (.lconst 1, 1) := by decide +kernel
theorem dX8_isFlock_3 : decode cX8_isFlock 3 = .ok (.ldc2_w 274, 3) := by decide +kernel
theorem dX8_isFlock_6 : decode cX8_isFlock 6 = .ok (.invokestatic 62, 3) := by decide +kernel
theorem dX8_isFlock_9 : decode cX8_isFlock 9 = .ok (.ifCond .eq 32, 3) := by decide +kernel
theorem dX8_isFlock_12 : decode cX8_isFlock 12 = .ok (.iload_n 1, 1) := by decide +kernel
theorem dX8_isFlock_13 : decode cX8_isFlock 13 = .ok (.i2l, 1) := by decide +kernel
theorem dX8_isFlock_14 : decode cX8_isFlock 14 = .ok (.lconst 1, 1) := by decide +kernel
theorem dX8_isFlock_15 : decode cX8_isFlock 15 = .ok (.ldc2_w 274, 3) := by decide +kernel
theorem dX8_isFlock_18 : decode cX8_isFlock 18 = .ok (.invokestatic 62, 3) := by decide +kernel
theorem dX8_isFlock_21 : decode cX8_isFlock 21 = .ok (.ifCond .eq 20, 3) := by decide +kernel
theorem dX8_isFlock_24 : decode cX8_isFlock 24 = .ok (.iload_n 2, 1) := by decide +kernel
theorem dX8_isFlock_25 : decode cX8_isFlock 25 = .ok (.i2l, 1) := by decide +kernel
theorem dX8_isFlock_26 : decode cX8_isFlock 26 = .ok (.lconst 0, 1) := by decide +kernel
theorem dX8_isFlock_27 : decode cX8_isFlock 27 = .ok (.iload_n 0, 1) := by decide +kernel
theorem dX8_isFlock_28 : decode cX8_isFlock 28 = .ok (.iconst 1, 1) := by decide +kernel
theorem dX8_isFlock_29 : decode cX8_isFlock 29 = .ok (.isub, 1) := by decide +kernel
theorem dX8_isFlock_30 : decode cX8_isFlock 30 = .ok (.i2l, 1) := by decide +kernel
theorem dX8_isFlock_31 : decode cX8_isFlock 31 = .ok (.invokestatic 62, 3) := by decide +kernel
theorem dX8_isFlock_34 : decode cX8_isFlock 34 = .ok (.ifCond .eq 7, 3) := by decide +kernel
theorem dX8_isFlock_37 : decode cX8_isFlock 37 = .ok (.iconst 1, 1) := by decide +kernel
theorem dX8_isFlock_38 : decode cX8_isFlock 38 = .ok (.goto 4, 3) := by decide +kernel
theorem dX8_isFlock_41 : decode cX8_isFlock 41 = .ok (.iconst 0, 1) := by decide +kernel
theorem dX8_isFlock_42 : decode cX8_isFlock 42 = .ok (.ireturn, 1) := by decide +kernel
theorem dX8_hasIn_0 : decode cX8_hasIn 0 = .ok (.lload 8, 2) := by decide +kernel
theorem dX8_hasIn_2 : decode cX8_hasIn 2 = .ok (.lload_n 2, 1) := by decide +kernel
theorem dX8_hasIn_3 : decode cX8_hasIn 3 = .ok (.lrem, 1) := by decide +kernel
theorem dX8_hasIn_4 : decode cX8_hasIn 4 = .ok (.lconst 0, 1) := by decide +kernel
theorem dX8_hasIn_5 : decode cX8_hasIn 5 = .ok (.lcmp, 1) := by decide +kernel
theorem dX8_hasIn_6 : decode cX8_hasIn 6 = .ok (.ifCond .ne 24, 3) := by decide +kernel
theorem dX8_hasIn_9 : decode cX8_hasIn 9 = .ok (.lload 6, 2) := by decide +kernel
theorem dX8_hasIn_11 : decode cX8_hasIn 11 = .ok (.lload 8, 2) := by decide +kernel
theorem dX8_hasIn_13 : decode cX8_hasIn 13 = .ok (.lload_n 2, 1) := by decide +kernel
theorem dX8_hasIn_14 : decode cX8_hasIn 14 = .ok (.ldiv, 1) := by decide +kernel
theorem dX8_hasIn_15 : decode cX8_hasIn 15 = .ok (.lload 4, 2) := by decide +kernel
theorem dX8_hasIn_17 : decode cX8_hasIn 17 = .ok (.lmul, 1) := by decide +kernel
theorem dX8_hasIn_18 : decode cX8_hasIn 18 = .ok (.lsub, 1) := by decide +kernel
theorem dX8_hasIn_19 : decode cX8_hasIn 19 = .ok (.lload_n 0, 1) := by decide +kernel
theorem dX8_hasIn_20 : decode cX8_hasIn 20 = .ok (.lrem, 1) := by decide +kernel
theorem dX8_hasIn_21 : decode cX8_hasIn 21 = .ok (.lconst 0, 1) := by decide +kernel
theorem dX8_hasIn_22 : decode cX8_hasIn 22 = .ok (.lcmp, 1) := by decide +kernel
theorem dX8_hasIn_23 : decode cX8_hasIn 23 = .ok (.ifCond .ne 7, 3) := by decide +kernel
theorem dX8_hasIn_26 : decode cX8_hasIn 26 = .ok (.iconst 1, 1) := by decide +kernel
theorem dX8_hasIn_27 : decode cX8_hasIn 27 = .ok (.goto 4, 3) := by decide +kernel
theorem dX8_hasIn_30 : decode cX8_hasIn 30 = .ok (.iconst 0, 1) := by decide +kernel
theorem dX8_hasIn_31 : decode cX8_hasIn 31 = .ok (.ireturn, 1) := by decide +kernel
theorem dX8_isClosed_0 : decode cX8_isClosed 0 = .ok (.lload_n 1, 1) := by decide +kernel
theorem dX8_isClosed_1 : decode cX8_isClosed 1 = .ok (.lload_n 3, 1) := by decide +kernel
theorem dX8_isClosed_2 : decode cX8_isClosed 2 = .ok (.lload 5, 2) := by decide +kernel
theorem dX8_isClosed_4 : decode cX8_isClosed 4 = .ok (.lconst 0, 1) := by decide +kernel
theorem dX8_isClosed_5 : decode cX8_isClosed 5 = .ok (.lload_n 1, 1) := by decide +kernel
theorem dX8_isClosed_6 : decode cX8_isClosed 6 = .ok (.invokestatic 276, 3) := by decide +kernel
theorem dX8_isClosed_9 : decode cX8_isClosed 9 = .ok (.ifCond .eq 33, 3) := by decide +kernel
theorem dX8_isClosed_12 : decode cX8_isClosed 12 = .ok (.lload_n 1, 1) := by decide +kernel
theorem dX8_isClosed_13 : decode cX8_isClosed 13 = .ok (.lload_n 3, 1) := by decide +kernel
theorem dX8_isClosed_14 : decode cX8_isClosed 14 = .ok (.lload 5, 2) := by decide +kernel
theorem dX8_isClosed_16 : decode cX8_isClosed 16 = .ok (.aload_n 0, 1) := by decide +kernel
theorem dX8_isClosed_17 : decode cX8_isClosed 17 = .ok (.getfield 7, 3) := by decide +kernel
theorem dX8_isClosed_20 : decode cX8_isClosed 20 = .ok (.lneg, 1) := by decide +kernel
theorem dX8_isClosed_21 : decode cX8_isClosed 21 = .ok (.lload_n 3, 1) := by decide +kernel
theorem dX8_isClosed_22 : decode cX8_isClosed 22 = .ok (.lmul, 1) := by decide +kernel
theorem dX8_isClosed_23 : decode cX8_isClosed 23 = .ok (.lload 5, 2) := by decide +kernel
theorem dX8_isClosed_25 : decode cX8_isClosed 25 = .ok (.aload_n 0, 1) := by decide +kernel
theorem dX8_isClosed_26 : decode cX8_isClosed 26 = .ok (.getfield 66, 3) := by decide +kernel
theorem dX8_isClosed_29 : decode cX8_isClosed 29 = .ok (.lload_n 3, 1) := by decide +kernel
theorem dX8_isClosed_30 : decode cX8_isClosed 30 = .ok (.lmul, 1) := by decide +kernel
theorem dX8_isClosed_31 : decode cX8_isClosed 31 = .ok (.ladd, 1) := by decide +kernel
theorem dX8_isClosed_32 : decode cX8_isClosed 32 = .ok (.invokestatic 276, 3) := by decide +kernel
theorem dX8_isClosed_35 : decode cX8_isClosed 35 = .ok (.ifCond .eq 7, 3) := by decide +kernel
theorem dX8_isClosed_38 : decode cX8_isClosed 38 = .ok (.iconst 1, 1) := by decide +kernel
theorem dX8_isClosed_39 : decode cX8_isClosed 39 = .ok (.goto 4, 3) := by decide +kernel
theorem dX8_isClosed_42 : decode cX8_isClosed 42 = .ok (.iconst 0, 1) := by decide +kernel
theorem dX8_isClosed_43 : decode cX8_isClosed 43 = .ok (.ireturn, 1) := by decide +kernel
theorem dX8_flocks_0 : decode cX8_flocks 0 = .ok (.iload_n 1, 1) := by decide +kernel
theorem dX8_flocks_1 : decode cX8_flocks 1 = .ok (.i2l, 1) := by decide +kernel
theorem dX8_flocks_2 : decode cX8_flocks 2 = .ok (.lconst 1, 1) := by decide +kernel
theorem dX8_flocks_3 : decode cX8_flocks 3 = .ok (.ldc2_w 274, 3) := by decide +kernel
theorem dX8_flocks_6 : decode cX8_flocks 6 = .ok (.invokestatic 62, 3) := by decide +kernel
theorem dX8_flocks_9 : decode cX8_flocks 9 = .ok (.ifCond .eq 13, 3) := by decide +kernel
theorem dX8_flocks_12 : decode cX8_flocks 12 = .ok (.iload_n 2, 1) := by decide +kernel
theorem dX8_flocks_13 : decode cX8_flocks 13 = .ok (.i2l, 1) := by decide +kernel
theorem dX8_flocks_14 : decode cX8_flocks 14 = .ok (.lconst 0, 1) := by decide +kernel
theorem dX8_flocks_15 : decode cX8_flocks 15 = .ok (.lconst 1, 1) := by decide +kernel
theorem dX8_flocks_16 : decode cX8_flocks 16 = .ok (.invokestatic 62, 3) := by decide +kernel
theorem dX8_flocks_19 : decode cX8_flocks 19 = .ok (.ifCond .ne 5, 3) := by decide +kernel
theorem dX8_flocks_22 : decode cX8_flocks 22 = .ok (.iconst (-1), 1) := by decide +kernel
theorem dX8_flocks_23 : decode cX8_flocks 23 = .ok (.ireturn, 1) := by decide +kernel
theorem dX8_flocks_24 : decode cX8_flocks 24 = .ok (.iconst 0, 1) := by decide +kernel
theorem dX8_flocks_25 : decode cX8_flocks 25 = .ok (.istore_n 3, 1) := by decide +kernel
theorem dX8_flocks_26 : decode cX8_flocks 26 = .ok (.iconst 1, 1) := by decide +kernel
theorem dX8_flocks_27 : decode cX8_flocks 27 = .ok (.istore 4, 2) := by decide +kernel
theorem dX8_flocks_29 : decode cX8_flocks 29 = .ok (.iload 4, 2) := by decide +kernel
theorem dX8_flocks_31 : decode cX8_flocks 31 = .ok (.iload_n 1, 1) := by decide +kernel
theorem dX8_flocks_32 : decode cX8_flocks 32 = .ok (.if_icmp .gt 64, 3) := by decide +kernel
theorem dX8_flocks_35 : decode cX8_flocks 35 = .ok (.iconst 0, 1) := by decide +kernel
theorem dX8_flocks_36 : decode cX8_flocks 36 = .ok (.istore 5, 2) := by decide +kernel
theorem dX8_flocks_38 : decode cX8_flocks 38 = .ok (.iload_n 1, 1) := by decide +kernel
theorem dX8_flocks_39 : decode cX8_flocks 39 = .ok (.iload 4, 2) := by decide +kernel
theorem dX8_flocks_41 : decode cX8_flocks 41 = .ok (.irem, 1) := by decide +kernel
theorem dX8_flocks_42 : decode cX8_flocks 42 = .ok (.ifCond .ne 48, 3) := by decide +kernel
theorem dX8_flocks_45 : decode cX8_flocks 45 = .ok (.iload 5, 2) := by decide +kernel
theorem dX8_flocks_47 : decode cX8_flocks 47 = .ok (.iload_n 1, 1) := by decide +kernel
theorem dX8_flocks_48 : decode cX8_flocks 48 = .ok (.iload 4, 2) := by decide +kernel
theorem dX8_flocks_50 : decode cX8_flocks 50 = .ok (.idiv, 1) := by decide +kernel
theorem dX8_flocks_51 : decode cX8_flocks 51 = .ok (.if_icmp .ge 39, 3) := by decide +kernel
theorem dX8_flocks_54 : decode cX8_flocks 54 = .ok (.iload_n 3, 1) := by decide +kernel
theorem dX8_flocks_55 : decode cX8_flocks 55 = .ok (.iload_n 2, 1) := by decide +kernel
theorem dX8_flocks_56 : decode cX8_flocks 56 = .ok (.ifCond .eq 21, 3) := by decide +kernel
theorem dX8_flocks_59 : decode cX8_flocks 59 = .ok (.aload_n 0, 1) := by decide +kernel
theorem dX8_flocks_60 : decode cX8_flocks 60 = .ok (.iload_n 1, 1) := by decide +kernel
theorem dX8_flocks_61 : decode cX8_flocks 61 = .ok (.iload 4, 2) := by decide +kernel
theorem dX8_flocks_63 : decode cX8_flocks 63 = .ok (.idiv, 1) := by decide +kernel
theorem dX8_flocks_64 : decode cX8_flocks 64 = .ok (.i2l, 1) := by decide +kernel
theorem dX8_flocks_65 : decode cX8_flocks 65 = .ok (.iload 4, 2) := by decide +kernel
theorem dX8_flocks_67 : decode cX8_flocks 67 = .ok (.i2l, 1) := by decide +kernel
theorem dX8_flocks_68 : decode cX8_flocks 68 = .ok (.iload 5, 2) := by decide +kernel
theorem dX8_flocks_70 : decode cX8_flocks 70 = .ok (.i2l, 1) := by decide +kernel
theorem dX8_flocks_71 : decode cX8_flocks 71 = .ok (.invokevirtual 280, 3) := by decide +kernel
theorem dX8_flocks_74 : decode cX8_flocks 74 = .ok (.ifCond .eq 7, 3) := by decide +kernel
theorem dX8_flocks_77 : decode cX8_flocks 77 = .ok (.iconst 1, 1) := by decide +kernel
theorem dX8_flocks_78 : decode cX8_flocks 78 = .ok (.goto 4, 3) := by decide +kernel
theorem dX8_flocks_81 : decode cX8_flocks 81 = .ok (.iconst 0, 1) := by decide +kernel
theorem dX8_flocks_82 : decode cX8_flocks 82 = .ok (.iadd, 1) := by decide +kernel
theorem dX8_flocks_83 : decode cX8_flocks 83 = .ok (.istore_n 3, 1) := by decide +kernel
theorem dX8_flocks_84 : decode cX8_flocks 84 = .ok (.iinc 5 1, 3) := by decide +kernel
theorem dX8_flocks_87 : decode cX8_flocks 87 = .ok (.goto (-49), 3) := by decide +kernel
theorem dX8_flocks_90 : decode cX8_flocks 90 = .ok (.iinc 4 1, 3) := by decide +kernel
theorem dX8_flocks_93 : decode cX8_flocks 93 = .ok (.goto (-64), 3) := by decide +kernel
theorem dX8_flocks_96 : decode cX8_flocks 96 = .ok (.iload_n 3, 1) := by decide +kernel
theorem dX8_flocks_97 : decode cX8_flocks 97 = .ok (.ireturn, 1) := by decide +kernel
theorem dX8_layShortest_0 : decode cX8_layShortest 0 = .ok (.aload_n 0, 1) := by decide +kernel
theorem dX8_layShortest_1 : decode cX8_layShortest 1 = .ok (.lload_n 1, 1) := by decide +kernel
theorem dX8_layShortest_2 : decode cX8_layShortest 2 = .ok (.lload_n 1, 1) := by decide +kernel
theorem dX8_layShortest_3 : decode cX8_layShortest 3 = .ok (.lmul, 1) := by decide +kernel
theorem dX8_layShortest_4 : decode cX8_layShortest 4 = .ok (.putfield 283, 3) := by decide +kernel
theorem dX8_layShortest_7 : decode cX8_layShortest 7 = .ok (.lconst 0, 1) := by decide +kernel
theorem dX8_layShortest_8 : decode cX8_layShortest 8 = .ok (.lstore 7, 2) := by decide +kernel
theorem dX8_layShortest_10 : decode cX8_layShortest 10 = .ok (.ldc2_w 83, 3) := by decide +kernel
theorem dX8_layShortest_13 : decode cX8_layShortest 13 = .ok (.aload_n 0, 1) := by decide +kernel
theorem dX8_layShortest_14 : decode cX8_layShortest 14 = .ok (.getfield 7, 3) := by decide +kernel
theorem dX8_layShortest_17 : decode cX8_layShortest 17 = .ok (.lmul, 1) := by decide +kernel
theorem dX8_layShortest_18 : decode cX8_layShortest 18 = .ok (.aload_n 0, 1) := by decide +kernel
theorem dX8_layShortest_19 : decode cX8_layShortest 19 = .ok (.getfield 66, 3) := by decide +kernel
theorem dX8_layShortest_22 : decode cX8_layShortest 22 = .ok (.aload_n 0, 1) := by decide +kernel
theorem dX8_layShortest_23 : decode cX8_layShortest 23 = .ok (.getfield 66, 3) := by decide +kernel
theorem dX8_layShortest_26 : decode cX8_layShortest 26 = .ok (.lmul, 1) := by decide +kernel
theorem dX8_layShortest_27 : decode cX8_layShortest 27 = .ok (.lsub, 1) := by decide +kernel
theorem dX8_layShortest_28 : decode cX8_layShortest 28 = .ok (.lload 7, 2) := by decide +kernel
theorem dX8_layShortest_30 : decode cX8_layShortest 30 = .ok (.lmul, 1) := by decide +kernel
theorem dX8_layShortest_31 : decode cX8_layShortest 31 = .ok (.lload 7, 2) := by decide +kernel
theorem dX8_layShortest_33 : decode cX8_layShortest 33 = .ok (.lmul, 1) := by decide +kernel
theorem dX8_layShortest_34 : decode cX8_layShortest 34 = .ok (.lload_n 3, 1) := by decide +kernel
theorem dX8_layShortest_35 : decode cX8_layShortest 35 = .ok (.lmul, 1) := by decide +kernel
theorem dX8_layShortest_36 : decode cX8_layShortest 36 = .ok (.lload_n 3, 1) := by decide +kernel
theorem dX8_layShortest_37 : decode cX8_layShortest 37 = .ok (.lmul, 1) := by decide +kernel
theorem dX8_layShortest_38 : decode cX8_layShortest 38 = .ok (.ldc2_w 83, 3) := by decide +kernel
theorem dX8_layShortest_41 : decode cX8_layShortest 41 = .ok (.aload_n 0, 1) := by decide +kernel
theorem dX8_layShortest_42 : decode cX8_layShortest 42 = .ok (.getfield 283, 3) := by decide +kernel
theorem dX8_layShortest_45 : decode cX8_layShortest 45 = .ok (.lmul, 1) := by decide +kernel
theorem dX8_layShortest_46 : decode cX8_layShortest 46 = .ok (.lcmp, 1) := by decide +kernel
theorem dX8_layShortest_47 : decode cX8_layShortest 47 = .ok (.ifCond .gt 119, 3) := by decide +kernel
theorem dX8_layShortest_50 : decode cX8_layShortest 50 = .ok (.lload 7, 2) := by decide +kernel
theorem dX8_layShortest_52 : decode cX8_layShortest 52 = .ok (.lload_n 3, 1) := by decide +kernel
theorem dX8_layShortest_53 : decode cX8_layShortest 53 = .ok (.lmul, 1) := by decide +kernel
theorem dX8_layShortest_54 : decode cX8_layShortest 54 = .ok (.lstore 9, 2) := by decide +kernel
theorem dX8_layShortest_56 : decode cX8_layShortest 56 = .ok (.aload_n 0, 1) := by decide +kernel
theorem dX8_layShortest_57 : decode cX8_layShortest 57 = .ok (.getfield 66, 3) := by decide +kernel
theorem dX8_layShortest_60 : decode cX8_layShortest 60 = .ok (.lneg, 1) := by decide +kernel
theorem dX8_layShortest_61 : decode cX8_layShortest 61 = .ok (.lload 9, 2) := by decide +kernel
theorem dX8_layShortest_63 : decode cX8_layShortest 63 = .ok (.lmul, 1) := by decide +kernel
theorem dX8_layShortest_64 : decode cX8_layShortest 64 = .ok (.ldc2_w 85, 3) := by decide +kernel
theorem dX8_layShortest_67 : decode cX8_layShortest 67 = .ok (.invokestatic 105, 3) := by decide +kernel
theorem dX8_layShortest_70 : decode cX8_layShortest 70 = .ok (.lload 7, 2) := by decide +kernel
theorem dX8_layShortest_72 : decode cX8_layShortest 72 = .ok (.lload 5, 2) := by decide +kernel
theorem dX8_layShortest_74 : decode cX8_layShortest 74 = .ok (.lmul, 1) := by decide +kernel
theorem dX8_layShortest_75 : decode cX8_layShortest 75 = .ok (.lsub, 1) := by decide +kernel
theorem dX8_layShortest_76 : decode cX8_layShortest 76 = .ok (.lload_n 1, 1) := by decide +kernel
theorem dX8_layShortest_77 : decode cX8_layShortest 77 = .ok (.invokestatic 105, 3) := by decide +kernel
theorem dX8_layShortest_80 : decode cX8_layShortest 80 = .ok (.lstore 11, 2) := by decide +kernel
theorem dX8_layShortest_82 : decode cX8_layShortest 82 = .ok (.lload 11, 2) := by decide +kernel
theorem dX8_layShortest_84 : decode cX8_layShortest 84 = .ok (.lconst 1, 1) := by decide +kernel
theorem dX8_layShortest_85 : decode cX8_layShortest 85 = .ok (.lsub, 1) := by decide +kernel
theorem dX8_layShortest_86 : decode cX8_layShortest 86 = .ok (.lstore 13, 2) := by decide +kernel
theorem dX8_layShortest_88 : decode cX8_layShortest 88 = .ok (.lload 13, 2) := by decide +kernel
theorem dX8_layShortest_90 : decode cX8_layShortest 90 = .ok (.lload 11, 2) := by decide +kernel
theorem dX8_layShortest_92 : decode cX8_layShortest 92 = .ok (.ldc2_w 85, 3) := by decide +kernel
theorem dX8_layShortest_95 : decode cX8_layShortest 95 = .ok (.ladd, 1) := by decide +kernel
theorem dX8_layShortest_96 : decode cX8_layShortest 96 = .ok (.lcmp, 1) := by decide +kernel
theorem dX8_layShortest_97 : decode cX8_layShortest 97 = .ok (.ifCond .gt 60, 3) := by decide +kernel
theorem dX8_layShortest_100 : decode cX8_layShortest 100 = .ok (.aload_n 0, 1) := by decide +kernel
theorem dX8_layShortest_101 : decode cX8_layShortest 101 = .ok (.lload 7, 2) := by decide +kernel
theorem dX8_layShortest_103 : decode cX8_layShortest 103 = .ok (.lload 5, 2) := by decide +kernel
theorem dX8_layShortest_105 : decode cX8_layShortest 105 = .ok (.lmul, 1) := by decide +kernel
theorem dX8_layShortest_106 : decode cX8_layShortest 106 = .ok (.lload 13, 2) := by decide +kernel
theorem dX8_layShortest_108 : decode cX8_layShortest 108 = .ok (.lload_n 1, 1) := by decide +kernel
theorem dX8_layShortest_109 : decode cX8_layShortest 109 = .ok (.lmul, 1) := by decide +kernel
theorem dX8_layShortest_110 : decode cX8_layShortest 110 = .ok (.ladd, 1) := by decide +kernel
theorem dX8_layShortest_111 : decode cX8_layShortest 111 = .ok (.lload 9, 2) := by decide +kernel
theorem dX8_layShortest_113 : decode cX8_layShortest 113 = .ok (.invokevirtual 79, 3) := by decide +kernel
theorem dX8_layShortest_116 : decode cX8_layShortest 116 = .ok (.lstore 15, 2) := by decide +kernel
theorem dX8_layShortest_118 : decode cX8_layShortest 118 = .ok (.aload_n 0, 1) := by decide +kernel
theorem dX8_layShortest_119 : decode cX8_layShortest 119 = .ok (.lload 15, 2) := by decide +kernel
theorem dX8_layShortest_121 : decode cX8_layShortest 121 = .ok (.lconst 0, 1) := by decide +kernel
theorem dX8_layShortest_122 : decode cX8_layShortest 122 = .ok (.lcmp, 1) := by decide +kernel
theorem dX8_layShortest_123 : decode cX8_layShortest 123 = .ok (.ifCond .le 18, 3) := by decide +kernel
theorem dX8_layShortest_126 : decode cX8_layShortest 126 = .ok (.lload 15, 2) := by decide +kernel
theorem dX8_layShortest_128 : decode cX8_layShortest 128 = .ok (.aload_n 0, 1) := by decide +kernel
theorem dX8_layShortest_129 : decode cX8_layShortest 129 = .ok (.getfield 283, 3) := by decide +kernel
theorem dX8_layShortest_132 : decode cX8_layShortest 132 = .ok (.lcmp, 1) := by decide +kernel
theorem dX8_layShortest_133 : decode cX8_layShortest 133 = .ok (.ifCond .ge 8, 3) := by decide +kernel
theorem dX8_layShortest_136 : decode cX8_layShortest 136 = .ok (.lload 15, 2) := by decide +kernel
theorem dX8_layShortest_138 : decode cX8_layShortest 138 = .ok (.goto 7, 3) := by decide +kernel
theorem dX8_layShortest_141 : decode cX8_layShortest 141 = .ok (.aload_n 0, 1) := by decide +kernel
theorem dX8_layShortest_142 : decode cX8_layShortest 142 = .ok (.getfield 283, 3) := by decide +kernel
theorem dX8_layShortest_145 : decode cX8_layShortest 145 = .ok (.putfield 283, 3) := by decide +kernel
theorem dX8_layShortest_148 : decode cX8_layShortest 148 = .ok (.lload 13, 2) := by decide +kernel
theorem dX8_layShortest_150 : decode cX8_layShortest 150 = .ok (.lconst 1, 1) := by decide +kernel
theorem dX8_layShortest_151 : decode cX8_layShortest 151 = .ok (.ladd, 1) := by decide +kernel
theorem dX8_layShortest_152 : decode cX8_layShortest 152 = .ok (.lstore 13, 2) := by decide +kernel
theorem dX8_layShortest_154 : decode cX8_layShortest 154 = .ok (.goto (-66), 3) := by decide +kernel
theorem dX8_layShortest_157 : decode cX8_layShortest 157 = .ok (.lload 7, 2) := by decide +kernel
theorem dX8_layShortest_159 : decode cX8_layShortest 159 = .ok (.lconst 1, 1) := by decide +kernel
theorem dX8_layShortest_160 : decode cX8_layShortest 160 = .ok (.ladd, 1) := by decide +kernel
theorem dX8_layShortest_161 : decode cX8_layShortest 161 = .ok (.lstore 7, 2) := by decide +kernel
theorem dX8_layShortest_163 : decode cX8_layShortest 163 = .ok (.goto (-153), 3) := by decide +kernel
theorem dX8_layShortest_166 : decode cX8_layShortest 166 = .ok (.aload_n 0, 1) := by decide +kernel
theorem dX8_layShortest_167 : decode cX8_layShortest 167 = .ok (.iconst 0, 1) := by decide +kernel
theorem dX8_layShortest_168 : decode cX8_layShortest 168 = .ok (.putfield 286, 3) := by decide +kernel
theorem dX8_layShortest_171 : decode cX8_layShortest 171 = .ok (.ldc2_w 289, 3) := by decide +kernel
theorem dX8_layShortest_174 : decode cX8_layShortest 174 = .ok (.lstore 7, 2) := by decide +kernel
theorem dX8_layShortest_176 : decode cX8_layShortest 176 = .ok (.lload 7, 2) := by decide +kernel
theorem dX8_layShortest_178 : decode cX8_layShortest 178 = .ok (.ldc2_w 291, 3) := by decide +kernel
theorem dX8_layShortest_181 : decode cX8_layShortest 181 = .ok (.lcmp, 1) := by decide +kernel
theorem dX8_layShortest_182 : decode cX8_layShortest 182 = .ok (.ifCond .gt 179, 3) := by decide +kernel
theorem dX8_layShortest_185 : decode cX8_layShortest 185 = .ok (.ldc2_w 83, 3) := by decide +kernel
theorem dX8_layShortest_188 : decode cX8_layShortest 188 = .ok (.aload_n 0, 1) := by decide +kernel
theorem dX8_layShortest_189 : decode cX8_layShortest 189 = .ok (.getfield 283, 3) := by decide +kernel
theorem dX8_layShortest_192 : decode cX8_layShortest 192 = .ok (.lmul, 1) := by decide +kernel
theorem dX8_layShortest_193 : decode cX8_layShortest 193 = .ok (.ldc2_w 83, 3) := by decide +kernel
theorem dX8_layShortest_196 : decode cX8_layShortest 196 = .ok (.aload_n 0, 1) := by decide +kernel
theorem dX8_layShortest_197 : decode cX8_layShortest 197 = .ok (.getfield 7, 3) := by decide +kernel
theorem dX8_layShortest_200 : decode cX8_layShortest 200 = .ok (.lmul, 1) := by decide +kernel
theorem dX8_layShortest_201 : decode cX8_layShortest 201 = .ok (.aload_n 0, 1) := by decide +kernel
theorem dX8_layShortest_202 : decode cX8_layShortest 202 = .ok (.getfield 66, 3) := by decide +kernel
theorem dX8_layShortest_205 : decode cX8_layShortest 205 = .ok (.aload_n 0, 1) := by decide +kernel
theorem dX8_layShortest_206 : decode cX8_layShortest 206 = .ok (.getfield 66, 3) := by decide +kernel
theorem dX8_layShortest_209 : decode cX8_layShortest 209 = .ok (.lmul, 1) := by decide +kernel
theorem dX8_layShortest_210 : decode cX8_layShortest 210 = .ok (.lsub, 1) := by decide +kernel
theorem dX8_layShortest_211 : decode cX8_layShortest 211 = .ok (.lload 7, 2) := by decide +kernel
theorem dX8_layShortest_213 : decode cX8_layShortest 213 = .ok (.lmul, 1) := by decide +kernel
theorem dX8_layShortest_214 : decode cX8_layShortest 214 = .ok (.lload 7, 2) := by decide +kernel
theorem dX8_layShortest_216 : decode cX8_layShortest 216 = .ok (.lmul, 1) := by decide +kernel
theorem dX8_layShortest_217 : decode cX8_layShortest 217 = .ok (.lsub, 1) := by decide +kernel
theorem dX8_layShortest_218 : decode cX8_layShortest 218 = .ok (.lstore 9, 2) := by decide +kernel
theorem dX8_layShortest_220 : decode cX8_layShortest 220 = .ok (.lload 9, 2) := by decide +kernel
theorem dX8_layShortest_222 : decode cX8_layShortest 222 = .ok (.invokestatic 164, 3) := by decide +kernel
theorem dX8_layShortest_225 : decode cX8_layShortest 225 = .ok (.lstore 11, 2) := by decide +kernel
theorem dX8_layShortest_227 : decode cX8_layShortest 227 = .ok (.lload 9, 2) := by decide +kernel
theorem dX8_layShortest_229 : decode cX8_layShortest 229 = .ok (.lconst 0, 1) := by decide +kernel
theorem dX8_layShortest_230 : decode cX8_layShortest 230 = .ok (.lcmp, 1) := by decide +kernel
theorem dX8_layShortest_231 : decode cX8_layShortest 231 = .ok (.ifCond .lt 121, 3) := by decide +kernel
theorem dX8_layShortest_234 : decode cX8_layShortest 234 = .ok (.lload 11, 2) := by decide +kernel
theorem dX8_layShortest_236 : decode cX8_layShortest 236 = .ok (.lload 11, 2) := by decide +kernel
theorem dX8_layShortest_238 : decode cX8_layShortest 238 = .ok (.lmul, 1) := by decide +kernel
theorem dX8_layShortest_239 : decode cX8_layShortest 239 = .ok (.lload 9, 2) := by decide +kernel
theorem dX8_layShortest_241 : decode cX8_layShortest 241 = .ok (.lcmp, 1) := by decide +kernel
theorem dX8_layShortest_242 : decode cX8_layShortest 242 = .ok (.ifCond .ne 110, 3) := by decide +kernel
theorem dX8_layShortest_245 : decode cX8_layShortest 245 = .ok (.lload 11, 2) := by decide +kernel
theorem dX8_layShortest_247 : decode cX8_layShortest 247 = .ok (.aload_n 0, 1) := by decide +kernel
theorem dX8_layShortest_248 : decode cX8_layShortest 248 = .ok (.getfield 66, 3) := by decide +kernel
theorem dX8_layShortest_251 : decode cX8_layShortest 251 = .ok (.lload 7, 2) := by decide +kernel
theorem dX8_layShortest_253 : decode cX8_layShortest 253 = .ok (.lmul, 1) := by decide +kernel
theorem dX8_layShortest_254 : decode cX8_layShortest 254 = .ok (.lsub, 1) := by decide +kernel
theorem dX8_layShortest_255 : decode cX8_layShortest 255 = .ok (.ldc2_w 85, 3) := by decide +kernel
theorem dX8_layShortest_258 : decode cX8_layShortest 258 = .ok (.lrem, 1) := by decide +kernel
theorem dX8_layShortest_259 : decode cX8_layShortest 259 = .ok (.lconst 0, 1) := by decide +kernel
theorem dX8_layShortest_260 : decode cX8_layShortest 260 = .ok (.lcmp, 1) := by decide +kernel
theorem dX8_layShortest_261 : decode cX8_layShortest 261 = .ok (.ifCond .ne 91, 3) := by decide +kernel
theorem dX8_layShortest_264 : decode cX8_layShortest 264 = .ok (.aload_n 0, 1) := by decide +kernel
theorem dX8_layShortest_265 : decode cX8_layShortest 265 = .ok (.dup, 1) := by decide +kernel
theorem dX8_layShortest_266 : decode cX8_layShortest 266 = .ok (.getfield 286, 3) := by decide +kernel
theorem dX8_layShortest_269 : decode cX8_layShortest 269 = .ok (.lload_n 1, 1) := by decide +kernel
theorem dX8_layShortest_270 : decode cX8_layShortest 270 = .ok (.lload_n 3, 1) := by decide +kernel
theorem dX8_layShortest_271 : decode cX8_layShortest 271 = .ok (.lload 5, 2) := by decide +kernel
theorem dX8_layShortest_273 : decode cX8_layShortest 273 = .ok (.lload 11, 2) := by decide +kernel
theorem dX8_layShortest_275 : decode cX8_layShortest 275 = .ok (.aload_n 0, 1) := by decide +kernel
theorem dX8_layShortest_276 : decode cX8_layShortest 276 = .ok (.getfield 66, 3) := by decide +kernel
theorem dX8_layShortest_279 : decode cX8_layShortest 279 = .ok (.lload 7, 2) := by decide +kernel
theorem dX8_layShortest_281 : decode cX8_layShortest 281 = .ok (.lmul, 1) := by decide +kernel
theorem dX8_layShortest_282 : decode cX8_layShortest 282 = .ok (.lsub, 1) := by decide +kernel
theorem dX8_layShortest_283 : decode cX8_layShortest 283 = .ok (.ldc2_w 85, 3) := by decide +kernel
theorem dX8_layShortest_286 : decode cX8_layShortest 286 = .ok (.ldiv, 1) := by decide +kernel
theorem dX8_layShortest_287 : decode cX8_layShortest 287 = .ok (.lload 7, 2) := by decide +kernel
theorem dX8_layShortest_289 : decode cX8_layShortest 289 = .ok (.invokestatic 276, 3) := by decide +kernel
theorem dX8_layShortest_292 : decode cX8_layShortest 292 = .ok (.ifCond .eq 7, 3) := by decide +kernel
theorem dX8_layShortest_295 : decode cX8_layShortest 295 = .ok (.iconst 1, 1) := by decide +kernel
theorem dX8_layShortest_296 : decode cX8_layShortest 296 = .ok (.goto 4, 3) := by decide +kernel
theorem dX8_layShortest_299 : decode cX8_layShortest 299 = .ok (.iconst 0, 1) := by decide +kernel
theorem dX8_layShortest_300 : decode cX8_layShortest 300 = .ok (.iadd, 1) := by decide +kernel
theorem dX8_layShortest_301 : decode cX8_layShortest 301 = .ok (.putfield 286, 3) := by decide +kernel
theorem dX8_layShortest_304 : decode cX8_layShortest 304 = .ok (.aload_n 0, 1) := by decide +kernel
theorem dX8_layShortest_305 : decode cX8_layShortest 305 = .ok (.dup, 1) := by decide +kernel
theorem dX8_layShortest_306 : decode cX8_layShortest 306 = .ok (.getfield 286, 3) := by decide +kernel
theorem dX8_layShortest_309 : decode cX8_layShortest 309 = .ok (.lload 11, 2) := by decide +kernel
theorem dX8_layShortest_311 : decode cX8_layShortest 311 = .ok (.lconst 0, 1) := by decide +kernel
theorem dX8_layShortest_312 : decode cX8_layShortest 312 = .ok (.lcmp, 1) := by decide +kernel
theorem dX8_layShortest_313 : decode cX8_layShortest 313 = .ok (.ifCond .le 34, 3) := by decide +kernel
theorem dX8_layShortest_316 : decode cX8_layShortest 316 = .ok (.lload_n 1, 1) := by decide +kernel
theorem dX8_layShortest_317 : decode cX8_layShortest 317 = .ok (.lload_n 3, 1) := by decide +kernel
theorem dX8_layShortest_318 : decode cX8_layShortest 318 = .ok (.lload 5, 2) := by decide +kernel
theorem dX8_layShortest_320 : decode cX8_layShortest 320 = .ok (.lload 11, 2) := by decide +kernel
theorem dX8_layShortest_322 : decode cX8_layShortest 322 = .ok (.lneg, 1) := by decide +kernel
theorem dX8_layShortest_323 : decode cX8_layShortest 323 = .ok (.aload_n 0, 1) := by decide +kernel
theorem dX8_layShortest_324 : decode cX8_layShortest 324 = .ok (.getfield 66, 3) := by decide +kernel
theorem dX8_layShortest_327 : decode cX8_layShortest 327 = .ok (.lload 7, 2) := by decide +kernel
theorem dX8_layShortest_329 : decode cX8_layShortest 329 = .ok (.lmul, 1) := by decide +kernel
theorem dX8_layShortest_330 : decode cX8_layShortest 330 = .ok (.lsub, 1) := by decide +kernel
theorem dX8_layShortest_331 : decode cX8_layShortest 331 = .ok (.ldc2_w 85, 3) := by decide +kernel
theorem dX8_layShortest_334 : decode cX8_layShortest 334 = .ok (.ldiv, 1) := by decide +kernel
theorem dX8_layShortest_335 : decode cX8_layShortest 335 = .ok (.lload 7, 2) := by decide +kernel
theorem dX8_layShortest_337 : decode cX8_layShortest 337 = .ok (.invokestatic 276, 3) := by decide +kernel
theorem dX8_layShortest_340 : decode cX8_layShortest 340 = .ok (.ifCond .eq 7, 3) := by decide +kernel
theorem dX8_layShortest_343 : decode cX8_layShortest 343 = .ok (.iconst 1, 1) := by decide +kernel
theorem dX8_layShortest_344 : decode cX8_layShortest 344 = .ok (.goto 4, 3) := by decide +kernel
theorem dX8_layShortest_347 : decode cX8_layShortest 347 = .ok (.iconst 0, 1) := by decide +kernel
theorem dX8_layShortest_348 : decode cX8_layShortest 348 = .ok (.iadd, 1) := by decide +kernel
theorem dX8_layShortest_349 : decode cX8_layShortest 349 = .ok (.putfield 286, 3) := by decide +kernel
theorem dX8_layShortest_352 : decode cX8_layShortest 352 = .ok (.lload 7, 2) := by decide +kernel
theorem dX8_layShortest_354 : decode cX8_layShortest 354 = .ok (.lconst 1, 1) := by decide +kernel
theorem dX8_layShortest_355 : decode cX8_layShortest 355 = .ok (.ladd, 1) := by decide +kernel
theorem dX8_layShortest_356 : decode cX8_layShortest 356 = .ok (.lstore 7, 2) := by decide +kernel
theorem dX8_layShortest_358 : decode cX8_layShortest 358 = .ok (.goto (-182), 3) := by decide +kernel
theorem dX8_layShortest_361 : decode cX8_layShortest 361 = .ok (.return_, 1) := by decide +kernel
theorem dX8_flock_0 : decode cX8_flock 0 = .ok (.iload_n 1, 1) := by decide +kernel
theorem dX8_flock_1 : decode cX8_flock 1 = .ok (.i2l, 1) := by decide +kernel
theorem dX8_flock_2 : decode cX8_flock 2 = .ok (.lconst 1, 1) := by decide +kernel
theorem dX8_flock_3 : decode cX8_flock 3 = .ok (.ldc2_w 274, 3) := by decide +kernel
theorem dX8_flock_6 : decode cX8_flock 6 = .ok (.invokestatic 62, 3) := by decide +kernel
theorem dX8_flock_9 : decode cX8_flock 9 = .ok (.ifCond .eq 19, 3) := by decide +kernel
theorem dX8_flock_12 : decode cX8_flock 12 = .ok (.iload_n 2, 1) := by decide +kernel
theorem dX8_flock_13 : decode cX8_flock 13 = .ok (.ifCond .lt 15, 3) := by decide +kernel
theorem dX8_flock_16 : decode cX8_flock 16 = .ok (.iload_n 3, 1) := by decide +kernel
theorem dX8_flock_17 : decode cX8_flock 17 = .ok (.i2l, 1) := by decide +kernel
theorem dX8_flock_18 : decode cX8_flock 18 = .ok (.lconst 0, 1) := by decide +kernel
theorem dX8_flock_19 : decode cX8_flock 19 = .ok (.ldc2_w 129, 3) := by decide +kernel
theorem dX8_flock_22 : decode cX8_flock 22 = .ok (.invokestatic 62, 3) := by decide +kernel
theorem dX8_flock_25 : decode cX8_flock 25 = .ok (.ifCond .ne 5, 3) := by decide +kernel
theorem dX8_flock_28 : decode cX8_flock 28 = .ok (.iconst (-1), 1) := by decide +kernel
theorem dX8_flock_29 : decode cX8_flock 29 = .ok (.ireturn, 1) := by decide +kernel
theorem dX8_flock_30 : decode cX8_flock 30 = .ok (.iload_n 2, 1) := by decide +kernel
theorem dX8_flock_31 : decode cX8_flock 31 = .ok (.istore 4, 2) := by decide +kernel
theorem dX8_flock_33 : decode cX8_flock 33 = .ok (.iconst 1, 1) := by decide +kernel
theorem dX8_flock_34 : decode cX8_flock 34 = .ok (.istore 5, 2) := by decide +kernel
theorem dX8_flock_36 : decode cX8_flock 36 = .ok (.iload 5, 2) := by decide +kernel
theorem dX8_flock_38 : decode cX8_flock 38 = .ok (.iload_n 1, 1) := by decide +kernel
theorem dX8_flock_39 : decode cX8_flock 39 = .ok (.if_icmp .gt 45, 3) := by decide +kernel
theorem dX8_flock_42 : decode cX8_flock 42 = .ok (.iload_n 1, 1) := by decide +kernel
theorem dX8_flock_43 : decode cX8_flock 43 = .ok (.iload 5, 2) := by decide +kernel
theorem dX8_flock_45 : decode cX8_flock 45 = .ok (.irem, 1) := by decide +kernel
theorem dX8_flock_46 : decode cX8_flock 46 = .ok (.ifCond .ne 12, 3) := by decide +kernel
theorem dX8_flock_49 : decode cX8_flock 49 = .ok (.iload 4, 2) := by decide +kernel
theorem dX8_flock_51 : decode cX8_flock 51 = .ok (.iload_n 1, 1) := by decide +kernel
theorem dX8_flock_52 : decode cX8_flock 52 = .ok (.iload 5, 2) := by decide +kernel
theorem dX8_flock_54 : decode cX8_flock 54 = .ok (.idiv, 1) := by decide +kernel
theorem dX8_flock_55 : decode cX8_flock 55 = .ok (.if_icmp .lt 29, 3) := by decide +kernel
theorem dX8_flock_58 : decode cX8_flock 58 = .ok (.iload 4, 2) := by decide +kernel
theorem dX8_flock_60 : decode cX8_flock 60 = .ok (.iload_n 1, 1) := by decide +kernel
theorem dX8_flock_61 : decode cX8_flock 61 = .ok (.iload 5, 2) := by decide +kernel
theorem dX8_flock_63 : decode cX8_flock 63 = .ok (.irem, 1) := by decide +kernel
theorem dX8_flock_64 : decode cX8_flock 64 = .ok (.ifCond .ne 10, 3) := by decide +kernel
theorem dX8_flock_67 : decode cX8_flock 67 = .ok (.iload_n 1, 1) := by decide +kernel
theorem dX8_flock_68 : decode cX8_flock 68 = .ok (.iload 5, 2) := by decide +kernel
theorem dX8_flock_70 : decode cX8_flock 70 = .ok (.idiv, 1) := by decide +kernel
theorem dX8_flock_71 : decode cX8_flock 71 = .ok (.goto 4, 3) := by decide +kernel
theorem dX8_flock_74 : decode cX8_flock 74 = .ok (.iconst 0, 1) := by decide +kernel
theorem dX8_flock_75 : decode cX8_flock 75 = .ok (.isub, 1) := by decide +kernel
theorem dX8_flock_76 : decode cX8_flock 76 = .ok (.istore 4, 2) := by decide +kernel
theorem dX8_flock_78 : decode cX8_flock 78 = .ok (.iinc 5 1, 3) := by decide +kernel
theorem dX8_flock_81 : decode cX8_flock 81 = .ok (.goto (-45), 3) := by decide +kernel
theorem dX8_flock_84 : decode cX8_flock 84 = .ok (.iload 5, 2) := by decide +kernel
theorem dX8_flock_86 : decode cX8_flock 86 = .ok (.iload_n 1, 1) := by decide +kernel
theorem dX8_flock_87 : decode cX8_flock 87 = .ok (.if_icmp .le 6, 3) := by decide +kernel
theorem dX8_flock_90 : decode cX8_flock 90 = .ok (.bipush (-4), 2) := by decide +kernel
theorem dX8_flock_92 : decode cX8_flock 92 = .ok (.ireturn, 1) := by decide +kernel
theorem dX8_flock_93 : decode cX8_flock 93 = .ok (.iload_n 1, 1) := by decide +kernel
theorem dX8_flock_94 : decode cX8_flock 94 = .ok (.iload 5, 2) := by decide +kernel
theorem dX8_flock_96 : decode cX8_flock 96 = .ok (.idiv, 1) := by decide +kernel
theorem dX8_flock_97 : decode cX8_flock 97 = .ok (.istore 6, 2) := by decide +kernel
theorem dX8_flock_99 : decode cX8_flock 99 = .ok (.iload_n 3, 1) := by decide +kernel
theorem dX8_flock_100 : decode cX8_flock 100 = .ok (.iconst 3, 1) := by decide +kernel
theorem dX8_flock_101 : decode cX8_flock 101 = .ok (.if_icmp .le 16, 3) := by decide +kernel
theorem dX8_flock_104 : decode cX8_flock 104 = .ok (.aload_n 0, 1) := by decide +kernel
theorem dX8_flock_105 : decode cX8_flock 105 = .ok (.iload 6, 2) := by decide +kernel
theorem dX8_flock_107 : decode cX8_flock 107 = .ok (.i2l, 1) := by decide +kernel
theorem dX8_flock_108 : decode cX8_flock 108 = .ok (.iload 5, 2) := by decide +kernel
theorem dX8_flock_110 : decode cX8_flock 110 = .ok (.i2l, 1) := by decide +kernel
theorem dX8_flock_111 : decode cX8_flock 111 = .ok (.iload 4, 2) := by decide +kernel
theorem dX8_flock_113 : decode cX8_flock 113 = .ok (.i2l, 1) := by decide +kernel
theorem dX8_flock_114 : decode cX8_flock 114 = .ok (.invokevirtual 293, 3) := by decide +kernel
theorem dX8_flock_117 : decode cX8_flock 117 = .ok (.iload_n 3, 1) := by decide +kernel
theorem dX8_flock_118 : decode cX8_flock 118 = .ok (.tableswitch 71 0 4 #[34, 37, 40, 43, 65], 34) := by decide +kernel
theorem dX8_flock_152 : decode cX8_flock 152 = .ok (.iload 6, 2) := by decide +kernel
theorem dX8_flock_154 : decode cX8_flock 154 = .ok (.ireturn, 1) := by decide +kernel
theorem dX8_flock_155 : decode cX8_flock 155 = .ok (.iload 5, 2) := by decide +kernel
theorem dX8_flock_157 : decode cX8_flock 157 = .ok (.ireturn, 1) := by decide +kernel
theorem dX8_flock_158 : decode cX8_flock 158 = .ok (.iload 4, 2) := by decide +kernel
theorem dX8_flock_160 : decode cX8_flock 160 = .ok (.ireturn, 1) := by decide +kernel
theorem dX8_flock_161 : decode cX8_flock 161 = .ok (.aload_n 0, 1) := by decide +kernel
theorem dX8_flock_162 : decode cX8_flock 162 = .ok (.iload 6, 2) := by decide +kernel
theorem dX8_flock_164 : decode cX8_flock 164 = .ok (.i2l, 1) := by decide +kernel
theorem dX8_flock_165 : decode cX8_flock 165 = .ok (.iload 5, 2) := by decide +kernel
theorem dX8_flock_167 : decode cX8_flock 167 = .ok (.i2l, 1) := by decide +kernel
theorem dX8_flock_168 : decode cX8_flock 168 = .ok (.iload 4, 2) := by decide +kernel
theorem dX8_flock_170 : decode cX8_flock 170 = .ok (.i2l, 1) := by decide +kernel
theorem dX8_flock_171 : decode cX8_flock 171 = .ok (.invokevirtual 280, 3) := by decide +kernel
theorem dX8_flock_174 : decode cX8_flock 174 = .ok (.ifCond .eq 7, 3) := by decide +kernel
theorem dX8_flock_177 : decode cX8_flock 177 = .ok (.iconst 1, 1) := by decide +kernel
theorem dX8_flock_178 : decode cX8_flock 178 = .ok (.goto 4, 3) := by decide +kernel
theorem dX8_flock_181 : decode cX8_flock 181 = .ok (.iconst 0, 1) := by decide +kernel
theorem dX8_flock_182 : decode cX8_flock 182 = .ok (.ireturn, 1) := by decide +kernel
theorem dX8_flock_183 : decode cX8_flock 183 = .ok (.aload_n 0, 1) := by decide +kernel
theorem dX8_flock_184 : decode cX8_flock 184 = .ok (.getfield 283, 3) := by decide +kernel
theorem dX8_flock_187 : decode cX8_flock 187 = .ok (.l2i, 1) := by decide +kernel
theorem dX8_flock_188 : decode cX8_flock 188 = .ok (.ireturn, 1) := by decide +kernel
theorem dX8_flock_189 : decode cX8_flock 189 = .ok (.aload_n 0, 1) := by decide +kernel
theorem dX8_flock_190 : decode cX8_flock 190 = .ok (.getfield 286, 3) := by decide +kernel
theorem dX8_flock_193 : decode cX8_flock 193 = .ok (.ireturn, 1) := by decide +kernel
theorem dX8_has_0 : decode cX8_has 0 = .ok (.iload_n 1, 1) := by decide +kernel
theorem dX8_has_1 : decode cX8_has 1 = .ok (.iload_n 2, 1) := by decide +kernel
theorem dX8_has_2 : decode cX8_has 2 = .ok (.iload_n 3, 1) := by decide +kernel
theorem dX8_has_3 : decode cX8_has 3 = .ok (.invokestatic 297, 3) := by decide +kernel
theorem dX8_has_6 : decode cX8_has 6 = .ok (.ifCond .eq 11, 3) := by decide +kernel
theorem dX8_has_9 : decode cX8_has 9 = .ok (.iload 4, 2) := by decide +kernel
theorem dX8_has_11 : decode cX8_has 11 = .ok (.invokestatic 92, 3) := by decide +kernel
theorem dX8_has_14 : decode cX8_has 14 = .ok (.ifCond .ne 5, 3) := by decide +kernel
theorem dX8_has_17 : decode cX8_has 17 = .ok (.iconst (-1), 1) := by decide +kernel
theorem dX8_has_18 : decode cX8_has 18 = .ok (.ireturn, 1) := by decide +kernel
theorem dX8_has_19 : decode cX8_has 19 = .ok (.iload_n 1, 1) := by decide +kernel
theorem dX8_has_20 : decode cX8_has 20 = .ok (.i2l, 1) := by decide +kernel
theorem dX8_has_21 : decode cX8_has 21 = .ok (.iload_n 2, 1) := by decide +kernel
theorem dX8_has_22 : decode cX8_has 22 = .ok (.i2l, 1) := by decide +kernel
theorem dX8_has_23 : decode cX8_has 23 = .ok (.iload_n 3, 1) := by decide +kernel
theorem dX8_has_24 : decode cX8_has 24 = .ok (.i2l, 1) := by decide +kernel
theorem dX8_has_25 : decode cX8_has 25 = .ok (.aload_n 0, 1) := by decide +kernel
theorem dX8_has_26 : decode cX8_has 26 = .ok (.getfield 13, 3) := by decide +kernel
theorem dX8_has_29 : decode cX8_has 29 = .ok (.iload 4, 2) := by decide +kernel
theorem dX8_has_31 : decode cX8_has 31 = .ok (.laload, 1) := by decide +kernel
theorem dX8_has_32 : decode cX8_has 32 = .ok (.aload_n 0, 1) := by decide +kernel
theorem dX8_has_33 : decode cX8_has 33 = .ok (.getfield 17, 3) := by decide +kernel
theorem dX8_has_36 : decode cX8_has 36 = .ok (.iload 4, 2) := by decide +kernel
theorem dX8_has_38 : decode cX8_has 38 = .ok (.laload, 1) := by decide +kernel
theorem dX8_has_39 : decode cX8_has 39 = .ok (.invokestatic 276, 3) := by decide +kernel
theorem dX8_has_42 : decode cX8_has 42 = .ok (.ifCond .eq 7, 3) := by decide +kernel
theorem dX8_has_45 : decode cX8_has 45 = .ok (.iconst 1, 1) := by decide +kernel
theorem dX8_has_46 : decode cX8_has 46 = .ok (.goto 4, 3) := by decide +kernel
theorem dX8_has_49 : decode cX8_has 49 = .ok (.iconst 0, 1) := by decide +kernel
theorem dX8_has_50 : decode cX8_has 50 = .ok (.ireturn, 1) := by decide +kernel
theorem dX8_shared_0 : decode cX8_shared 0 = .ok (.lload_n 0, 1) := by decide +kernel
theorem dX8_shared_1 : decode cX8_shared 1 = .ok (.lconst 0, 1) := by decide +kernel
theorem dX8_shared_2 : decode cX8_shared 2 = .ok (.lcmp, 1) := by decide +kernel
theorem dX8_shared_3 : decode cX8_shared 3 = .ok (.ifCond .ge 8, 3) := by decide +kernel
theorem dX8_shared_6 : decode cX8_shared 6 = .ok (.lload_n 0, 1) := by decide +kernel
theorem dX8_shared_7 : decode cX8_shared 7 = .ok (.lneg, 1) := by decide +kernel
theorem dX8_shared_8 : decode cX8_shared 8 = .ok (.goto 4, 3) := by decide +kernel
theorem dX8_shared_11 : decode cX8_shared 11 = .ok (.lload_n 0, 1) := by decide +kernel
theorem dX8_shared_12 : decode cX8_shared 12 = .ok (.lstore 4, 2) := by decide +kernel
theorem dX8_shared_14 : decode cX8_shared 14 = .ok (.lload_n 2, 1) := by decide +kernel
theorem dX8_shared_15 : decode cX8_shared 15 = .ok (.lconst 0, 1) := by decide +kernel
theorem dX8_shared_16 : decode cX8_shared 16 = .ok (.lcmp, 1) := by decide +kernel
theorem dX8_shared_17 : decode cX8_shared 17 = .ok (.ifCond .ge 8, 3) := by decide +kernel
theorem dX8_shared_20 : decode cX8_shared 20 = .ok (.lload_n 2, 1) := by decide +kernel
theorem dX8_shared_21 : decode cX8_shared 21 = .ok (.lneg, 1) := by decide +kernel
theorem dX8_shared_22 : decode cX8_shared 22 = .ok (.goto 4, 3) := by decide +kernel
theorem dX8_shared_25 : decode cX8_shared 25 = .ok (.lload_n 2, 1) := by decide +kernel
theorem dX8_shared_26 : decode cX8_shared 26 = .ok (.lstore 6, 2) := by decide +kernel
theorem dX8_shared_28 : decode cX8_shared 28 = .ok (.lload 6, 2) := by decide +kernel
theorem dX8_shared_30 : decode cX8_shared 30 = .ok (.lconst 0, 1) := by decide +kernel
theorem dX8_shared_31 : decode cX8_shared 31 = .ok (.lcmp, 1) := by decide +kernel
theorem dX8_shared_32 : decode cX8_shared 32 = .ok (.ifCond .eq 21, 3) := by decide +kernel
theorem dX8_shared_35 : decode cX8_shared 35 = .ok (.lload 4, 2) := by decide +kernel
theorem dX8_shared_37 : decode cX8_shared 37 = .ok (.lload 6, 2) := by decide +kernel
theorem dX8_shared_39 : decode cX8_shared 39 = .ok (.lrem, 1) := by decide +kernel
theorem dX8_shared_40 : decode cX8_shared 40 = .ok (.lstore 8, 2) := by decide +kernel
theorem dX8_shared_42 : decode cX8_shared 42 = .ok (.lload 6, 2) := by decide +kernel
theorem dX8_shared_44 : decode cX8_shared 44 = .ok (.lstore 4, 2) := by decide +kernel
theorem dX8_shared_46 : decode cX8_shared 46 = .ok (.lload 8, 2) := by decide +kernel
theorem dX8_shared_48 : decode cX8_shared 48 = .ok (.lstore 6, 2) := by decide +kernel
theorem dX8_shared_50 : decode cX8_shared 50 = .ok (.goto (-22), 3) := by decide +kernel
theorem dX8_shared_53 : decode cX8_shared 53 = .ok (.lload 4, 2) := by decide +kernel
theorem dX8_shared_55 : decode cX8_shared 55 = .ok (.lreturn, 1) := by decide +kernel
theorem dX8_grow_0 : decode cX8_grow 0 = .ok (.aload_n 0, 1) := by decide +kernel
theorem dX8_grow_1 : decode cX8_grow 1 = .ok (.getfield 301, 3) := by decide +kernel
theorem dX8_grow_4 : decode cX8_grow 4 = .ok (.lstore 5, 2) := by decide +kernel
theorem dX8_grow_6 : decode cX8_grow 6 = .ok (.aload_n 0, 1) := by decide +kernel
theorem dX8_grow_7 : decode cX8_grow 7 = .ok (.getfield 304, 3) := by decide +kernel
theorem dX8_grow_10 : decode cX8_grow 10 = .ok (.lstore 7, 2) := by decide +kernel
theorem dX8_grow_12 : decode cX8_grow 12 = .ok (.lload_n 1, 1) := by decide +kernel
theorem dX8_grow_13 : decode cX8_grow 13 = .ok (.lstore 9, 2) := by decide +kernel
theorem dX8_grow_15 : decode cX8_grow 15 = .ok (.lload_n 3, 1) := by decide +kernel
theorem dX8_grow_16 : decode cX8_grow 16 = .ok (.lstore 11, 2) := by decide +kernel
theorem dX8_grow_18 : decode cX8_grow 18 = .ok (.lload 11, 2) := by decide +kernel
theorem dX8_grow_20 : decode cX8_grow 20 = .ok (.lconst 0, 1) := by decide +kernel
theorem dX8_grow_21 : decode cX8_grow 21 = .ok (.lcmp, 1) := by decide +kernel
theorem dX8_grow_22 : decode cX8_grow 22 = .ok (.ifCond .eq 51, 3) := by decide +kernel
theorem dX8_grow_25 : decode cX8_grow 25 = .ok (.lload 7, 2) := by decide +kernel
theorem dX8_grow_27 : decode cX8_grow 27 = .ok (.lload 11, 2) := by decide +kernel
theorem dX8_grow_29 : decode cX8_grow 29 = .ok (.invokestatic 105, 3) := by decide +kernel
theorem dX8_grow_32 : decode cX8_grow 32 = .ok (.lstore 13, 2) := by decide +kernel
theorem dX8_grow_34 : decode cX8_grow 34 = .ok (.lload 5, 2) := by decide +kernel
theorem dX8_grow_36 : decode cX8_grow 36 = .ok (.lload 13, 2) := by decide +kernel
theorem dX8_grow_38 : decode cX8_grow 38 = .ok (.lload 9, 2) := by decide +kernel
theorem dX8_grow_40 : decode cX8_grow 40 = .ok (.lmul, 1) := by decide +kernel
theorem dX8_grow_41 : decode cX8_grow 41 = .ok (.lsub, 1) := by decide +kernel
theorem dX8_grow_42 : decode cX8_grow 42 = .ok (.lstore 15, 2) := by decide +kernel
theorem dX8_grow_44 : decode cX8_grow 44 = .ok (.lload 7, 2) := by decide +kernel
theorem dX8_grow_46 : decode cX8_grow 46 = .ok (.lload 13, 2) := by decide +kernel
theorem dX8_grow_48 : decode cX8_grow 48 = .ok (.lload 11, 2) := by decide +kernel
theorem dX8_grow_50 : decode cX8_grow 50 = .ok (.lmul, 1) := by decide +kernel
theorem dX8_grow_51 : decode cX8_grow 51 = .ok (.lsub, 1) := by decide +kernel
theorem dX8_grow_52 : decode cX8_grow 52 = .ok (.lstore 17, 2) := by decide +kernel
theorem dX8_grow_54 : decode cX8_grow 54 = .ok (.lload 9, 2) := by decide +kernel
theorem dX8_grow_56 : decode cX8_grow 56 = .ok (.lstore 5, 2) := by decide +kernel
theorem dX8_grow_58 : decode cX8_grow 58 = .ok (.lload 11, 2) := by decide +kernel
theorem dX8_grow_60 : decode cX8_grow 60 = .ok (.lstore 7, 2) := by decide +kernel
theorem dX8_grow_62 : decode cX8_grow 62 = .ok (.lload 15, 2) := by decide +kernel
theorem dX8_grow_64 : decode cX8_grow 64 = .ok (.lstore 9, 2) := by decide +kernel
theorem dX8_grow_66 : decode cX8_grow 66 = .ok (.lload 17, 2) := by decide +kernel
theorem dX8_grow_68 : decode cX8_grow 68 = .ok (.lstore 11, 2) := by decide +kernel
theorem dX8_grow_70 : decode cX8_grow 70 = .ok (.goto (-52), 3) := by decide +kernel
theorem dX8_grow_73 : decode cX8_grow 73 = .ok (.aload_n 0, 1) := by decide +kernel
theorem dX8_grow_74 : decode cX8_grow 74 = .ok (.aload_n 0, 1) := by decide +kernel
theorem dX8_grow_75 : decode cX8_grow 75 = .ok (.getfield 307, 3) := by decide +kernel
theorem dX8_grow_78 : decode cX8_grow 78 = .ok (.lload 9, 2) := by decide +kernel
theorem dX8_grow_80 : decode cX8_grow 80 = .ok (.invokestatic 310, 3) := by decide +kernel
theorem dX8_grow_83 : decode cX8_grow 83 = .ok (.putfield 307, 3) := by decide +kernel
theorem dX8_grow_86 : decode cX8_grow 86 = .ok (.aload_n 0, 1) := by decide +kernel
theorem dX8_grow_87 : decode cX8_grow 87 = .ok (.lload 7, 2) := by decide +kernel
theorem dX8_grow_89 : decode cX8_grow 89 = .ok (.lconst 0, 1) := by decide +kernel
theorem dX8_grow_90 : decode cX8_grow 90 = .ok (.lcmp, 1) := by decide +kernel
theorem dX8_grow_91 : decode cX8_grow 91 = .ok (.ifCond .ge 9, 3) := by decide +kernel
theorem dX8_grow_94 : decode cX8_grow 94 = .ok (.lload 7, 2) := by decide +kernel
theorem dX8_grow_96 : decode cX8_grow 96 = .ok (.lneg, 1) := by decide +kernel
theorem dX8_grow_97 : decode cX8_grow 97 = .ok (.goto 5, 3) := by decide +kernel
theorem dX8_grow_100 : decode cX8_grow 100 = .ok (.lload 7, 2) := by decide +kernel
theorem dX8_grow_102 : decode cX8_grow 102 = .ok (.putfield 304, 3) := by decide +kernel
theorem dX8_grow_105 : decode cX8_grow 105 = .ok (.aload_n 0, 1) := by decide +kernel
theorem dX8_grow_106 : decode cX8_grow 106 = .ok (.lload 7, 2) := by decide +kernel
theorem dX8_grow_108 : decode cX8_grow 108 = .ok (.lconst 0, 1) := by decide +kernel
theorem dX8_grow_109 : decode cX8_grow 109 = .ok (.lcmp, 1) := by decide +kernel
theorem dX8_grow_110 : decode cX8_grow 110 = .ok (.ifCond .ge 9, 3) := by decide +kernel
theorem dX8_grow_113 : decode cX8_grow 113 = .ok (.lload 5, 2) := by decide +kernel
theorem dX8_grow_115 : decode cX8_grow 115 = .ok (.lneg, 1) := by decide +kernel
theorem dX8_grow_116 : decode cX8_grow 116 = .ok (.goto 5, 3) := by decide +kernel
theorem dX8_grow_119 : decode cX8_grow 119 = .ok (.lload 5, 2) := by decide +kernel
theorem dX8_grow_121 : decode cX8_grow 121 = .ok (.putfield 301, 3) := by decide +kernel
theorem dX8_grow_124 : decode cX8_grow 124 = .ok (.aload_n 0, 1) := by decide +kernel
theorem dX8_grow_125 : decode cX8_grow 125 = .ok (.aload_n 0, 1) := by decide +kernel
theorem dX8_grow_126 : decode cX8_grow 126 = .ok (.getfield 307, 3) := by decide +kernel
theorem dX8_grow_129 : decode cX8_grow 129 = .ok (.lconst 0, 1) := by decide +kernel
theorem dX8_grow_130 : decode cX8_grow 130 = .ok (.lcmp, 1) := by decide +kernel
theorem dX8_grow_131 : decode cX8_grow 131 = .ok (.ifCond .ne 10, 3) := by decide +kernel
theorem dX8_grow_134 : decode cX8_grow 134 = .ok (.aload_n 0, 1) := by decide +kernel
theorem dX8_grow_135 : decode cX8_grow 135 = .ok (.getfield 301, 3) := by decide +kernel
theorem dX8_grow_138 : decode cX8_grow 138 = .ok (.goto 14, 3) := by decide +kernel
theorem dX8_grow_141 : decode cX8_grow 141 = .ok (.aload_n 0, 1) := by decide +kernel
theorem dX8_grow_142 : decode cX8_grow 142 = .ok (.getfield 301, 3) := by decide +kernel
theorem dX8_grow_145 : decode cX8_grow 145 = .ok (.aload_n 0, 1) := by decide +kernel
theorem dX8_grow_146 : decode cX8_grow 146 = .ok (.getfield 307, 3) := by decide +kernel
theorem dX8_grow_149 : decode cX8_grow 149 = .ok (.invokestatic 313, 3) := by decide +kernel
theorem dX8_grow_152 : decode cX8_grow 152 = .ok (.putfield 301, 3) := by decide +kernel
theorem dX8_grow_155 : decode cX8_grow 155 = .ok (.return_, 1) := by decide +kernel
theorem dX8_begin_0 : decode cX8_begin 0 = .ok (.aload_n 0, 1) := by decide +kernel
theorem dX8_begin_1 : decode cX8_begin 1 = .ok (.lconst 0, 1) := by decide +kernel
theorem dX8_begin_2 : decode cX8_begin 2 = .ok (.putfield 307, 3) := by decide +kernel
theorem dX8_begin_5 : decode cX8_begin 5 = .ok (.aload_n 0, 1) := by decide +kernel
theorem dX8_begin_6 : decode cX8_begin 6 = .ok (.lconst 0, 1) := by decide +kernel
theorem dX8_begin_7 : decode cX8_begin 7 = .ok (.putfield 304, 3) := by decide +kernel
theorem dX8_begin_10 : decode cX8_begin 10 = .ok (.aload_n 0, 1) := by decide +kernel
theorem dX8_begin_11 : decode cX8_begin 11 = .ok (.lconst 0, 1) := by decide +kernel
theorem dX8_begin_12 : decode cX8_begin 12 = .ok (.putfield 301, 3) := by decide +kernel
theorem dX8_begin_15 : decode cX8_begin 15 = .ok (.return_, 1) := by decide +kernel
theorem dX8_told_0 : decode cX8_told 0 = .ok (.iload_n 1, 1) := by decide +kernel
theorem dX8_told_1 : decode cX8_told 1 = .ok (.ifCond .ne 10, 3) := by decide +kernel
theorem dX8_told_4 : decode cX8_told 4 = .ok (.aload_n 0, 1) := by decide +kernel
theorem dX8_told_5 : decode cX8_told 5 = .ok (.getfield 307, 3) := by decide +kernel
theorem dX8_told_8 : decode cX8_told 8 = .ok (.goto 19, 3) := by decide +kernel
theorem dX8_told_11 : decode cX8_told 11 = .ok (.iload_n 1, 1) := by decide +kernel
theorem dX8_told_12 : decode cX8_told 12 = .ok (.iconst 1, 1) := by decide +kernel
theorem dX8_told_13 : decode cX8_told 13 = .ok (.if_icmp .ne 10, 3) := by decide +kernel
theorem dX8_told_16 : decode cX8_told 16 = .ok (.aload_n 0, 1) := by decide +kernel
theorem dX8_told_17 : decode cX8_told 17 = .ok (.getfield 304, 3) := by decide +kernel
theorem dX8_told_20 : decode cX8_told 20 = .ok (.goto 7, 3) := by decide +kernel
theorem dX8_told_23 : decode cX8_told 23 = .ok (.aload_n 0, 1) := by decide +kernel
theorem dX8_told_24 : decode cX8_told 24 = .ok (.getfield 301, 3) := by decide +kernel
theorem dX8_told_27 : decode cX8_told 27 = .ok (.l2i, 1) := by decide +kernel
theorem dX8_told_28 : decode cX8_told 28 = .ok (.ireturn, 1) := by decide +kernel
theorem dX8_meet_0 : decode cX8_meet 0 = .ok (.lload_n 1, 1) := by decide +kernel
theorem dX8_meet_1 : decode cX8_meet 1 = .ok (.lload 7, 2) := by decide +kernel
theorem dX8_meet_3 : decode cX8_meet 3 = .ok (.invokestatic 310, 3) := by decide +kernel
theorem dX8_meet_6 : decode cX8_meet 6 = .ok (.lstore 13, 2) := by decide +kernel
theorem dX8_meet_8 : decode cX8_meet 8 = .ok (.lload_n 3, 1) := by decide +kernel
theorem dX8_meet_9 : decode cX8_meet 9 = .ok (.lload_n 3, 1) := by decide +kernel
theorem dX8_meet_10 : decode cX8_meet 10 = .ok (.lload 9, 2) := by decide +kernel
theorem dX8_meet_12 : decode cX8_meet 12 = .ok (.invokestatic 310, 3) := by decide +kernel
theorem dX8_meet_15 : decode cX8_meet 15 = .ok (.ldiv, 1) := by decide +kernel
theorem dX8_meet_16 : decode cX8_meet 16 = .ok (.lload 9, 2) := by decide +kernel
theorem dX8_meet_18 : decode cX8_meet 18 = .ok (.lmul, 1) := by decide +kernel
theorem dX8_meet_19 : decode cX8_meet 19 = .ok (.lstore 15, 2) := by decide +kernel
theorem dX8_meet_21 : decode cX8_meet 21 = .ok (.lload 15, 2) := by decide +kernel
theorem dX8_meet_23 : decode cX8_meet 23 = .ok (.lstore 17, 2) := by decide +kernel
theorem dX8_meet_25 : decode cX8_meet 25 = .ok (.lload 17, 2) := by decide +kernel
theorem dX8_meet_27 : decode cX8_meet 27 = .ok (.lload_n 3, 1) := by decide +kernel
theorem dX8_meet_28 : decode cX8_meet 28 = .ok (.ldiv, 1) := by decide +kernel
theorem dX8_meet_29 : decode cX8_meet 29 = .ok (.lload 5, 2) := by decide +kernel
theorem dX8_meet_31 : decode cX8_meet 31 = .ok (.lmul, 1) := by decide +kernel
theorem dX8_meet_32 : decode cX8_meet 32 = .ok (.lload 17, 2) := by decide +kernel
theorem dX8_meet_34 : decode cX8_meet 34 = .ok (.lload 9, 2) := by decide +kernel
theorem dX8_meet_36 : decode cX8_meet 36 = .ok (.ldiv, 1) := by decide +kernel
theorem dX8_meet_37 : decode cX8_meet 37 = .ok (.lload 11, 2) := by decide +kernel
theorem dX8_meet_39 : decode cX8_meet 39 = .ok (.lmul, 1) := by decide +kernel
theorem dX8_meet_40 : decode cX8_meet 40 = .ok (.lsub, 1) := by decide +kernel
theorem dX8_meet_41 : decode cX8_meet 41 = .ok (.lload 13, 2) := by decide +kernel
theorem dX8_meet_43 : decode cX8_meet 43 = .ok (.lrem, 1) := by decide +kernel
theorem dX8_meet_44 : decode cX8_meet 44 = .ok (.lconst 0, 1) := by decide +kernel
theorem dX8_meet_45 : decode cX8_meet 45 = .ok (.lcmp, 1) := by decide +kernel
theorem dX8_meet_46 : decode cX8_meet 46 = .ok (.ifCond .eq 13, 3) := by decide +kernel
theorem dX8_meet_49 : decode cX8_meet 49 = .ok (.lload 17, 2) := by decide +kernel
theorem dX8_meet_51 : decode cX8_meet 51 = .ok (.lload 15, 2) := by decide +kernel
theorem dX8_meet_53 : decode cX8_meet 53 = .ok (.ladd, 1) := by decide +kernel
theorem dX8_meet_54 : decode cX8_meet 54 = .ok (.lstore 17, 2) := by decide +kernel
theorem dX8_meet_56 : decode cX8_meet 56 = .ok (.goto (-31), 3) := by decide +kernel
theorem dX8_meet_59 : decode cX8_meet 59 = .ok (.aload_n 0, 1) := by decide +kernel
theorem dX8_meet_60 : decode cX8_meet 60 = .ok (.lload 17, 2) := by decide +kernel
theorem dX8_meet_62 : decode cX8_meet 62 = .ok (.putfield 304, 3) := by decide +kernel
theorem dX8_meet_65 : decode cX8_meet 65 = .ok (.aload_n 0, 1) := by decide +kernel
theorem dX8_meet_66 : decode cX8_meet 66 = .ok (.lload_n 1, 1) := by decide +kernel
theorem dX8_meet_67 : decode cX8_meet 67 = .ok (.lload 13, 2) := by decide +kernel
theorem dX8_meet_69 : decode cX8_meet 69 = .ok (.ldiv, 1) := by decide +kernel
theorem dX8_meet_70 : decode cX8_meet 70 = .ok (.lload 7, 2) := by decide +kernel
theorem dX8_meet_72 : decode cX8_meet 72 = .ok (.lmul, 1) := by decide +kernel
theorem dX8_meet_73 : decode cX8_meet 73 = .ok (.putfield 307, 3) := by decide +kernel
theorem dX8_meet_76 : decode cX8_meet 76 = .ok (.lload 17, 2) := by decide +kernel
theorem dX8_meet_78 : decode cX8_meet 78 = .ok (.lload_n 3, 1) := by decide +kernel
theorem dX8_meet_79 : decode cX8_meet 79 = .ok (.ldiv, 1) := by decide +kernel
theorem dX8_meet_80 : decode cX8_meet 80 = .ok (.lload 5, 2) := by decide +kernel
theorem dX8_meet_82 : decode cX8_meet 82 = .ok (.lmul, 1) := by decide +kernel
theorem dX8_meet_83 : decode cX8_meet 83 = .ok (.lload_n 1, 1) := by decide +kernel
theorem dX8_meet_84 : decode cX8_meet 84 = .ok (.invokestatic 313, 3) := by decide +kernel
theorem dX8_meet_87 : decode cX8_meet 87 = .ok (.lstore 19, 2) := by decide +kernel
theorem dX8_meet_89 : decode cX8_meet 89 = .ok (.lload 7, 2) := by decide +kernel
theorem dX8_meet_91 : decode cX8_meet 91 = .ok (.lload 9, 2) := by decide +kernel
theorem dX8_meet_93 : decode cX8_meet 93 = .ok (.lload 11, 2) := by decide +kernel
theorem dX8_meet_95 : decode cX8_meet 95 = .ok (.lload 19, 2) := by decide +kernel
theorem dX8_meet_97 : decode cX8_meet 97 = .ok (.lload 17, 2) := by decide +kernel
theorem dX8_meet_99 : decode cX8_meet 99 = .ok (.invokestatic 276, 3) := by decide +kernel
theorem dX8_meet_102 : decode cX8_meet 102 = .ok (.ifCond .ne 12, 3) := by decide +kernel
theorem dX8_meet_105 : decode cX8_meet 105 = .ok (.lload 19, 2) := by decide +kernel
theorem dX8_meet_107 : decode cX8_meet 107 = .ok (.lload_n 1, 1) := by decide +kernel
theorem dX8_meet_108 : decode cX8_meet 108 = .ok (.ladd, 1) := by decide +kernel
theorem dX8_meet_109 : decode cX8_meet 109 = .ok (.lstore 19, 2) := by decide +kernel
theorem dX8_meet_111 : decode cX8_meet 111 = .ok (.goto (-22), 3) := by decide +kernel
theorem dX8_meet_114 : decode cX8_meet 114 = .ok (.aload_n 0, 1) := by decide +kernel
theorem dX8_meet_115 : decode cX8_meet 115 = .ok (.lload 19, 2) := by decide +kernel
theorem dX8_meet_117 : decode cX8_meet 117 = .ok (.aload_n 0, 1) := by decide +kernel
theorem dX8_meet_118 : decode cX8_meet 118 = .ok (.getfield 307, 3) := by decide +kernel
theorem dX8_meet_121 : decode cX8_meet 121 = .ok (.invokestatic 313, 3) := by decide +kernel
theorem dX8_meet_124 : decode cX8_meet 124 = .ok (.putfield 301, 3) := by decide +kernel
theorem dX8_meet_127 : decode cX8_meet 127 = .ok (.return_, 1) := by decide +kernel
theorem dX8_joined_0 : decode cX8_joined 0 = .ok (.iload_n 1, 1) := by decide +kernel
theorem dX8_joined_1 : decode cX8_joined 1 = .ok (.iload_n 2, 1) := by decide +kernel
theorem dX8_joined_2 : decode cX8_joined 2 = .ok (.iload_n 3, 1) := by decide +kernel
theorem dX8_joined_3 : decode cX8_joined 3 = .ok (.invokestatic 297, 3) := by decide +kernel
theorem dX8_joined_6 : decode cX8_joined 6 = .ok (.ifCond .eq 28, 3) := by decide +kernel
theorem dX8_joined_9 : decode cX8_joined 9 = .ok (.iload 4, 2) := by decide +kernel
theorem dX8_joined_11 : decode cX8_joined 11 = .ok (.iload 5, 2) := by decide +kernel
theorem dX8_joined_13 : decode cX8_joined 13 = .ok (.iload 6, 2) := by decide +kernel
theorem dX8_joined_15 : decode cX8_joined 15 = .ok (.invokestatic 297, 3) := by decide +kernel
theorem dX8_joined_18 : decode cX8_joined 18 = .ok (.ifCond .eq 16, 3) := by decide +kernel
theorem dX8_joined_21 : decode cX8_joined 21 = .ok (.iload 8, 2) := by decide +kernel
theorem dX8_joined_23 : decode cX8_joined 23 = .ok (.i2l, 1) := by decide +kernel
theorem dX8_joined_24 : decode cX8_joined 24 = .ok (.lconst 0, 1) := by decide +kernel
theorem dX8_joined_25 : decode cX8_joined 25 = .ok (.ldc2_w 85, 3) := by decide +kernel
theorem dX8_joined_28 : decode cX8_joined 28 = .ok (.invokestatic 62, 3) := by decide +kernel
theorem dX8_joined_31 : decode cX8_joined 31 = .ok (.ifCond .ne 5, 3) := by decide +kernel
theorem dX8_joined_34 : decode cX8_joined 34 = .ok (.iconst (-1), 1) := by decide +kernel
theorem dX8_joined_35 : decode cX8_joined 35 = .ok (.ireturn, 1) := by decide +kernel
theorem dX8_joined_36 : decode cX8_joined 36 = .ok (.iload 7, 2) := by decide +kernel
theorem dX8_joined_38 : decode cX8_joined 38 = .ok (.ifCond .eq 25, 3) := by decide +kernel
theorem dX8_joined_41 : decode cX8_joined 41 = .ok (.aload_n 0, 1) := by decide +kernel
theorem dX8_joined_42 : decode cX8_joined 42 = .ok (.iload_n 1, 1) := by decide +kernel
theorem dX8_joined_43 : decode cX8_joined 43 = .ok (.i2l, 1) := by decide +kernel
theorem dX8_joined_44 : decode cX8_joined 44 = .ok (.iload_n 2, 1) := by decide +kernel
theorem dX8_joined_45 : decode cX8_joined 45 = .ok (.i2l, 1) := by decide +kernel
theorem dX8_joined_46 : decode cX8_joined 46 = .ok (.iload_n 3, 1) := by decide +kernel
theorem dX8_joined_47 : decode cX8_joined 47 = .ok (.i2l, 1) := by decide +kernel
theorem dX8_joined_48 : decode cX8_joined 48 = .ok (.iload 4, 2) := by decide +kernel
theorem dX8_joined_50 : decode cX8_joined 50 = .ok (.i2l, 1) := by decide +kernel
theorem dX8_joined_51 : decode cX8_joined 51 = .ok (.iload 5, 2) := by decide +kernel
theorem dX8_joined_53 : decode cX8_joined 53 = .ok (.i2l, 1) := by decide +kernel
theorem dX8_joined_54 : decode cX8_joined 54 = .ok (.iload 6, 2) := by decide +kernel
theorem dX8_joined_56 : decode cX8_joined 56 = .ok (.i2l, 1) := by decide +kernel
theorem dX8_joined_57 : decode cX8_joined 57 = .ok (.invokevirtual 316, 3) := by decide +kernel
theorem dX8_joined_60 : decode cX8_joined 60 = .ok (.goto 40, 3) := by decide +kernel
theorem dX8_joined_63 : decode cX8_joined 63 = .ok (.aload_n 0, 1) := by decide +kernel
theorem dX8_joined_64 : decode cX8_joined 64 = .ok (.invokevirtual 320, 3) := by decide +kernel
theorem dX8_joined_67 : decode cX8_joined 67 = .ok (.aload_n 0, 1) := by decide +kernel
theorem dX8_joined_68 : decode cX8_joined 68 = .ok (.iload_n 1, 1) := by decide +kernel
theorem dX8_joined_69 : decode cX8_joined 69 = .ok (.i2l, 1) := by decide +kernel
theorem dX8_joined_70 : decode cX8_joined 70 = .ok (.lconst 0, 1) := by decide +kernel
theorem dX8_joined_71 : decode cX8_joined 71 = .ok (.invokevirtual 323, 3) := by decide +kernel
theorem dX8_joined_74 : decode cX8_joined 74 = .ok (.aload_n 0, 1) := by decide +kernel
theorem dX8_joined_75 : decode cX8_joined 75 = .ok (.iload_n 3, 1) := by decide +kernel
theorem dX8_joined_76 : decode cX8_joined 76 = .ok (.i2l, 1) := by decide +kernel
theorem dX8_joined_77 : decode cX8_joined 77 = .ok (.iload_n 2, 1) := by decide +kernel
theorem dX8_joined_78 : decode cX8_joined 78 = .ok (.i2l, 1) := by decide +kernel
theorem dX8_joined_79 : decode cX8_joined 79 = .ok (.invokevirtual 323, 3) := by decide +kernel
theorem dX8_joined_82 : decode cX8_joined 82 = .ok (.aload_n 0, 1) := by decide +kernel
theorem dX8_joined_83 : decode cX8_joined 83 = .ok (.iload 4, 2) := by decide +kernel
theorem dX8_joined_85 : decode cX8_joined 85 = .ok (.i2l, 1) := by decide +kernel
theorem dX8_joined_86 : decode cX8_joined 86 = .ok (.lconst 0, 1) := by decide +kernel
theorem dX8_joined_87 : decode cX8_joined 87 = .ok (.invokevirtual 323, 3) := by decide +kernel
theorem dX8_joined_90 : decode cX8_joined 90 = .ok (.aload_n 0, 1) := by decide +kernel
theorem dX8_joined_91 : decode cX8_joined 91 = .ok (.iload 6, 2) := by decide +kernel
theorem dX8_joined_93 : decode cX8_joined 93 = .ok (.i2l, 1) := by decide +kernel
theorem dX8_joined_94 : decode cX8_joined 94 = .ok (.iload 5, 2) := by decide +kernel
theorem dX8_joined_96 : decode cX8_joined 96 = .ok (.i2l, 1) := by decide +kernel
theorem dX8_joined_97 : decode cX8_joined 97 = .ok (.invokevirtual 323, 3) := by decide +kernel
theorem dX8_joined_100 : decode cX8_joined 100 = .ok (.aload_n 0, 1) := by decide +kernel
theorem dX8_joined_101 : decode cX8_joined 101 = .ok (.getfield 307, 3) := by decide +kernel
theorem dX8_joined_104 : decode cX8_joined 104 = .ok (.ldc2_w 274, 3) := by decide +kernel
theorem dX8_joined_107 : decode cX8_joined 107 = .ok (.lcmp, 1) := by decide +kernel
theorem dX8_joined_108 : decode cX8_joined 108 = .ok (.ifCond .gt 14, 3) := by decide +kernel
theorem dX8_joined_111 : decode cX8_joined 111 = .ok (.aload_n 0, 1) := by decide +kernel
theorem dX8_joined_112 : decode cX8_joined 112 = .ok (.getfield 304, 3) := by decide +kernel
theorem dX8_joined_115 : decode cX8_joined 115 = .ok (.ldc2_w 274, 3) := by decide +kernel
theorem dX8_joined_118 : decode cX8_joined 118 = .ok (.lcmp, 1) := by decide +kernel
theorem dX8_joined_119 : decode cX8_joined 119 = .ok (.ifCond .le 8, 3) := by decide +kernel
theorem dX8_joined_122 : decode cX8_joined 122 = .ok (.bipush (-2), 2) := by decide +kernel
theorem dX8_joined_124 : decode cX8_joined 124 = .ok (.goto 9, 3) := by decide +kernel
theorem dX8_joined_127 : decode cX8_joined 127 = .ok (.aload_n 0, 1) := by decide +kernel
theorem dX8_joined_128 : decode cX8_joined 128 = .ok (.iload 8, 2) := by decide +kernel
theorem dX8_joined_130 : decode cX8_joined 130 = .ok (.invokevirtual 326, 3) := by decide +kernel
theorem dX8_joined_133 : decode cX8_joined 133 = .ok (.ireturn, 1) := by decide +kernel
theorem dX8_turned_0 : decode cX8_turned 0 = .ok (.iload_n 1, 1) := by decide +kernel
theorem dX8_turned_1 : decode cX8_turned 1 = .ok (.iload_n 2, 1) := by decide +kernel
theorem dX8_turned_2 : decode cX8_turned 2 = .ok (.iload_n 3, 1) := by decide +kernel
theorem dX8_turned_3 : decode cX8_turned 3 = .ok (.invokestatic 297, 3) := by decide +kernel
theorem dX8_turned_6 : decode cX8_turned 6 = .ok (.ifCond .eq 24, 3) := by decide +kernel
theorem dX8_turned_9 : decode cX8_turned 9 = .ok (.iload 4, 2) := by decide +kernel
theorem dX8_turned_11 : decode cX8_turned 11 = .ok (.invokestatic 92, 3) := by decide +kernel
theorem dX8_turned_14 : decode cX8_turned 14 = .ok (.ifCond .eq 16, 3) := by decide +kernel
theorem dX8_turned_17 : decode cX8_turned 17 = .ok (.iload 5, 2) := by decide +kernel
theorem dX8_turned_19 : decode cX8_turned 19 = .ok (.i2l, 1) := by decide +kernel
theorem dX8_turned_20 : decode cX8_turned 20 = .ok (.lconst 0, 1) := by decide +kernel
theorem dX8_turned_21 : decode cX8_turned 21 = .ok (.ldc2_w 85, 3) := by decide +kernel
theorem dX8_turned_24 : decode cX8_turned 24 = .ok (.invokestatic 62, 3) := by decide +kernel
theorem dX8_turned_27 : decode cX8_turned 27 = .ok (.ifCond .ne 5, 3) := by decide +kernel
theorem dX8_turned_30 : decode cX8_turned 30 = .ok (.iconst (-1), 1) := by decide +kernel
theorem dX8_turned_31 : decode cX8_turned 31 = .ok (.ireturn, 1) := by decide +kernel
theorem dX8_turned_32 : decode cX8_turned 32 = .ok (.aload_n 0, 1) := by decide +kernel
theorem dX8_turned_33 : decode cX8_turned 33 = .ok (.iload 4, 2) := by decide +kernel
theorem dX8_turned_35 : decode cX8_turned 35 = .ok (.invokevirtual 131, 3) := by decide +kernel
theorem dX8_turned_38 : decode cX8_turned 38 = .ok (.ifCond .eq 6, 3) := by decide +kernel
theorem dX8_turned_41 : decode cX8_turned 41 = .ok (.bipush (-2), 2) := by decide +kernel
theorem dX8_turned_43 : decode cX8_turned 43 = .ok (.ireturn, 1) := by decide +kernel
theorem dX8_turned_44 : decode cX8_turned 44 = .ok (.aload_n 0, 1) := by decide +kernel
theorem dX8_turned_45 : decode cX8_turned 45 = .ok (.invokevirtual 320, 3) := by decide +kernel
theorem dX8_turned_48 : decode cX8_turned 48 = .ok (.aload_n 0, 1) := by decide +kernel
theorem dX8_turned_49 : decode cX8_turned 49 = .ok (.iload_n 1, 1) := by decide +kernel
theorem dX8_turned_50 : decode cX8_turned 50 = .ok (.i2l, 1) := by decide +kernel
theorem dX8_turned_51 : decode cX8_turned 51 = .ok (.lconst 0, 1) := by decide +kernel
theorem dX8_turned_52 : decode cX8_turned 52 = .ok (.aload_n 0, 1) := by decide +kernel
theorem dX8_turned_53 : decode cX8_turned 53 = .ok (.getfield 13, 3) := by decide +kernel
theorem dX8_turned_56 : decode cX8_turned 56 = .ok (.iload 4, 2) := by decide +kernel
theorem dX8_turned_58 : decode cX8_turned 58 = .ok (.laload, 1) := by decide +kernel
theorem dX8_turned_59 : decode cX8_turned 59 = .ok (.aload_n 0, 1) := by decide +kernel
theorem dX8_turned_60 : decode cX8_turned 60 = .ok (.getfield 17, 3) := by decide +kernel
theorem dX8_turned_63 : decode cX8_turned 63 = .ok (.iload 4, 2) := by decide +kernel
theorem dX8_turned_65 : decode cX8_turned 65 = .ok (.laload, 1) := by decide +kernel
theorem dX8_turned_66 : decode cX8_turned 66 = .ok (.invokevirtual 108, 3) := by decide +kernel
theorem dX8_turned_69 : decode cX8_turned 69 = .ok (.aload_n 0, 1) := by decide +kernel
theorem dX8_turned_70 : decode cX8_turned 70 = .ok (.aload_n 0, 1) := by decide +kernel
theorem dX8_turned_71 : decode cX8_turned 71 = .ok (.getfield 69, 3) := by decide +kernel
theorem dX8_turned_74 : decode cX8_turned 74 = .ok (.aload_n 0, 1) := by decide +kernel
theorem dX8_turned_75 : decode cX8_turned 75 = .ok (.getfield 72, 3) := by decide +kernel
theorem dX8_turned_78 : decode cX8_turned 78 = .ok (.invokevirtual 323, 3) := by decide +kernel
theorem dX8_turned_81 : decode cX8_turned 81 = .ok (.aload_n 0, 1) := by decide +kernel
theorem dX8_turned_82 : decode cX8_turned 82 = .ok (.iload_n 3, 1) := by decide +kernel
theorem dX8_turned_83 : decode cX8_turned 83 = .ok (.i2l, 1) := by decide +kernel
theorem dX8_turned_84 : decode cX8_turned 84 = .ok (.iload_n 2, 1) := by decide +kernel
theorem dX8_turned_85 : decode cX8_turned 85 = .ok (.i2l, 1) := by decide +kernel
theorem dX8_turned_86 : decode cX8_turned 86 = .ok (.aload_n 0, 1) := by decide +kernel
theorem dX8_turned_87 : decode cX8_turned 87 = .ok (.getfield 13, 3) := by decide +kernel
theorem dX8_turned_90 : decode cX8_turned 90 = .ok (.iload 4, 2) := by decide +kernel
theorem dX8_turned_92 : decode cX8_turned 92 = .ok (.laload, 1) := by decide +kernel
theorem dX8_turned_93 : decode cX8_turned 93 = .ok (.aload_n 0, 1) := by decide +kernel
theorem dX8_turned_94 : decode cX8_turned 94 = .ok (.getfield 17, 3) := by decide +kernel
theorem dX8_turned_97 : decode cX8_turned 97 = .ok (.iload 4, 2) := by decide +kernel
theorem dX8_turned_99 : decode cX8_turned 99 = .ok (.laload, 1) := by decide +kernel
theorem dX8_turned_100 : decode cX8_turned 100 = .ok (.invokevirtual 108, 3) := by decide +kernel
theorem dX8_turned_103 : decode cX8_turned 103 = .ok (.aload_n 0, 1) := by decide +kernel
theorem dX8_turned_104 : decode cX8_turned 104 = .ok (.aload_n 0, 1) := by decide +kernel
theorem dX8_turned_105 : decode cX8_turned 105 = .ok (.getfield 69, 3) := by decide +kernel
theorem dX8_turned_108 : decode cX8_turned 108 = .ok (.aload_n 0, 1) := by decide +kernel
theorem dX8_turned_109 : decode cX8_turned 109 = .ok (.getfield 72, 3) := by decide +kernel
theorem dX8_turned_112 : decode cX8_turned 112 = .ok (.invokevirtual 323, 3) := by decide +kernel
theorem dX8_turned_115 : decode cX8_turned 115 = .ok (.aload_n 0, 1) := by decide +kernel
theorem dX8_turned_116 : decode cX8_turned 116 = .ok (.getfield 307, 3) := by decide +kernel
theorem dX8_turned_119 : decode cX8_turned 119 = .ok (.ldc2_w 274, 3) := by decide +kernel
theorem dX8_turned_122 : decode cX8_turned 122 = .ok (.lcmp, 1) := by decide +kernel
theorem dX8_turned_123 : decode cX8_turned 123 = .ok (.ifCond .gt 14, 3) := by decide +kernel
theorem dX8_turned_126 : decode cX8_turned 126 = .ok (.aload_n 0, 1) := by decide +kernel
theorem dX8_turned_127 : decode cX8_turned 127 = .ok (.getfield 304, 3) := by decide +kernel
theorem dX8_turned_130 : decode cX8_turned 130 = .ok (.ldc2_w 274, 3) := by decide +kernel
theorem dX8_turned_133 : decode cX8_turned 133 = .ok (.lcmp, 1) := by decide +kernel
theorem dX8_turned_134 : decode cX8_turned 134 = .ok (.ifCond .le 8, 3) := by decide +kernel
theorem dX8_turned_137 : decode cX8_turned 137 = .ok (.bipush (-2), 2) := by decide +kernel
theorem dX8_turned_139 : decode cX8_turned 139 = .ok (.goto 9, 3) := by decide +kernel
theorem dX8_turned_142 : decode cX8_turned 142 = .ok (.aload_n 0, 1) := by decide +kernel
theorem dX8_turned_143 : decode cX8_turned 143 = .ok (.iload 5, 2) := by decide +kernel
theorem dX8_turned_145 : decode cX8_turned 145 = .ok (.invokevirtual 326, 3) := by decide +kernel
theorem dX8_turned_148 : decode cX8_turned 148 = .ok (.ireturn, 1) := by decide +kernel
theorem dX8_layLeaps_0 : decode cX8_layLeaps 0 = .ok (.aload_n 0, 1) := by decide +kernel
theorem dX8_layLeaps_1 : decode cX8_layLeaps 1 = .ok (.iconst 0, 1) := by decide +kernel
theorem dX8_layLeaps_2 : decode cX8_layLeaps 2 = .ok (.putfield 329, 3) := by decide +kernel
theorem dX8_layLeaps_5 : decode cX8_layLeaps 5 = .ok (.iconst 0, 1) := by decide +kernel
theorem dX8_layLeaps_6 : decode cX8_layLeaps 6 = .ok (.istore_n 2, 1) := by decide +kernel
theorem dX8_layLeaps_7 : decode cX8_layLeaps 7 = .ok (.iload_n 2, 1) := by decide +kernel
theorem dX8_layLeaps_8 : decode cX8_layLeaps 8 = .ok (.aload_n 0, 1) := by decide +kernel
theorem dX8_layLeaps_9 : decode cX8_layLeaps 9 = .ok (.getfield 20, 3) := by decide +kernel
theorem dX8_layLeaps_12 : decode cX8_layLeaps 12 = .ok (.if_icmp .ge 144, 3) := by decide +kernel
theorem dX8_layLeaps_15 : decode cX8_layLeaps 15 = .ok (.aload_n 0, 1) := by decide +kernel
theorem dX8_layLeaps_16 : decode cX8_layLeaps 16 = .ok (.aload_n 0, 1) := by decide +kernel
theorem dX8_layLeaps_17 : decode cX8_layLeaps 17 = .ok (.getfield 13, 3) := by decide +kernel
theorem dX8_layLeaps_20 : decode cX8_layLeaps 20 = .ok (.iload_n 1, 1) := by decide +kernel
theorem dX8_layLeaps_21 : decode cX8_layLeaps 21 = .ok (.laload, 1) := by decide +kernel
theorem dX8_layLeaps_22 : decode cX8_layLeaps 22 = .ok (.aload_n 0, 1) := by decide +kernel
theorem dX8_layLeaps_23 : decode cX8_layLeaps 23 = .ok (.getfield 17, 3) := by decide +kernel
theorem dX8_layLeaps_26 : decode cX8_layLeaps 26 = .ok (.iload_n 1, 1) := by decide +kernel
theorem dX8_layLeaps_27 : decode cX8_layLeaps 27 = .ok (.laload, 1) := by decide +kernel
theorem dX8_layLeaps_28 : decode cX8_layLeaps 28 = .ok (.aload_n 0, 1) := by decide +kernel
theorem dX8_layLeaps_29 : decode cX8_layLeaps 29 = .ok (.getfield 26, 3) := by decide +kernel
theorem dX8_layLeaps_32 : decode cX8_layLeaps 32 = .ok (.iload_n 2, 1) := by decide +kernel
theorem dX8_layLeaps_33 : decode cX8_layLeaps 33 = .ok (.laload, 1) := by decide +kernel
theorem dX8_layLeaps_34 : decode cX8_layLeaps 34 = .ok (.aload_n 0, 1) := by decide +kernel
theorem dX8_layLeaps_35 : decode cX8_layLeaps 35 = .ok (.getfield 29, 3) := by decide +kernel
theorem dX8_layLeaps_38 : decode cX8_layLeaps 38 = .ok (.iload_n 2, 1) := by decide +kernel
theorem dX8_layLeaps_39 : decode cX8_layLeaps 39 = .ok (.laload, 1) := by decide +kernel
theorem dX8_layLeaps_40 : decode cX8_layLeaps 40 = .ok (.invokevirtual 108, 3) := by decide +kernel
theorem dX8_layLeaps_43 : decode cX8_layLeaps 43 = .ok (.aload_n 0, 1) := by decide +kernel
theorem dX8_layLeaps_44 : decode cX8_layLeaps 44 = .ok (.getfield 48, 3) := by decide +kernel
theorem dX8_layLeaps_47 : decode cX8_layLeaps 47 = .ok (.aload_n 0, 1) := by decide +kernel
theorem dX8_layLeaps_48 : decode cX8_layLeaps 48 = .ok (.getfield 329, 3) := by decide +kernel
theorem dX8_layLeaps_51 : decode cX8_layLeaps 51 = .ok (.aload_n 0, 1) := by decide +kernel
theorem dX8_layLeaps_52 : decode cX8_layLeaps 52 = .ok (.getfield 69, 3) := by decide +kernel
theorem dX8_layLeaps_55 : decode cX8_layLeaps 55 = .ok (.lastore, 1) := by decide +kernel
theorem dX8_layLeaps_56 : decode cX8_layLeaps 56 = .ok (.aload_n 0, 1) := by decide +kernel
theorem dX8_layLeaps_57 : decode cX8_layLeaps 57 = .ok (.getfield 51, 3) := by decide +kernel
theorem dX8_layLeaps_60 : decode cX8_layLeaps 60 = .ok (.aload_n 0, 1) := by decide +kernel
theorem dX8_layLeaps_61 : decode cX8_layLeaps 61 = .ok (.getfield 329, 3) := by decide +kernel
theorem dX8_layLeaps_64 : decode cX8_layLeaps 64 = .ok (.aload_n 0, 1) := by decide +kernel
theorem dX8_layLeaps_65 : decode cX8_layLeaps 65 = .ok (.getfield 72, 3) := by decide +kernel
theorem dX8_layLeaps_68 : decode cX8_layLeaps 68 = .ok (.lastore, 1) := by decide +kernel
theorem dX8_layLeaps_69 : decode cX8_layLeaps 69 = .ok (.aload_n 0, 1) := by decide +kernel
theorem dX8_layLeaps_70 : decode cX8_layLeaps 70 = .ok (.aload_n 0, 1) := by decide +kernel
theorem dX8_layLeaps_71 : decode cX8_layLeaps 71 = .ok (.getfield 13, 3) := by decide +kernel
theorem dX8_layLeaps_74 : decode cX8_layLeaps 74 = .ok (.iload_n 1, 1) := by decide +kernel
theorem dX8_layLeaps_75 : decode cX8_layLeaps 75 = .ok (.laload, 1) := by decide +kernel
theorem dX8_layLeaps_76 : decode cX8_layLeaps 76 = .ok (.aload_n 0, 1) := by decide +kernel
theorem dX8_layLeaps_77 : decode cX8_layLeaps 77 = .ok (.getfield 66, 3) := by decide +kernel
theorem dX8_layLeaps_80 : decode cX8_layLeaps 80 = .ok (.aload_n 0, 1) := by decide +kernel
theorem dX8_layLeaps_81 : decode cX8_layLeaps 81 = .ok (.getfield 17, 3) := by decide +kernel
theorem dX8_layLeaps_84 : decode cX8_layLeaps 84 = .ok (.iload_n 1, 1) := by decide +kernel
theorem dX8_layLeaps_85 : decode cX8_layLeaps 85 = .ok (.laload, 1) := by decide +kernel
theorem dX8_layLeaps_86 : decode cX8_layLeaps 86 = .ok (.lmul, 1) := by decide +kernel
theorem dX8_layLeaps_87 : decode cX8_layLeaps 87 = .ok (.ladd, 1) := by decide +kernel
theorem dX8_layLeaps_88 : decode cX8_layLeaps 88 = .ok (.aload_n 0, 1) := by decide +kernel
theorem dX8_layLeaps_89 : decode cX8_layLeaps 89 = .ok (.getfield 17, 3) := by decide +kernel
theorem dX8_layLeaps_92 : decode cX8_layLeaps 92 = .ok (.iload_n 1, 1) := by decide +kernel
theorem dX8_layLeaps_93 : decode cX8_layLeaps 93 = .ok (.laload, 1) := by decide +kernel
theorem dX8_layLeaps_94 : decode cX8_layLeaps 94 = .ok (.lneg, 1) := by decide +kernel
theorem dX8_layLeaps_95 : decode cX8_layLeaps 95 = .ok (.aload_n 0, 1) := by decide +kernel
theorem dX8_layLeaps_96 : decode cX8_layLeaps 96 = .ok (.getfield 26, 3) := by decide +kernel
theorem dX8_layLeaps_99 : decode cX8_layLeaps 99 = .ok (.iload_n 2, 1) := by decide +kernel
theorem dX8_layLeaps_100 : decode cX8_layLeaps 100 = .ok (.laload, 1) := by decide +kernel
theorem dX8_layLeaps_101 : decode cX8_layLeaps 101 = .ok (.aload_n 0, 1) := by decide +kernel
theorem dX8_layLeaps_102 : decode cX8_layLeaps 102 = .ok (.getfield 29, 3) := by decide +kernel
theorem dX8_layLeaps_105 : decode cX8_layLeaps 105 = .ok (.iload_n 2, 1) := by decide +kernel
theorem dX8_layLeaps_106 : decode cX8_layLeaps 106 = .ok (.laload, 1) := by decide +kernel
theorem dX8_layLeaps_107 : decode cX8_layLeaps 107 = .ok (.invokevirtual 108, 3) := by decide +kernel
theorem dX8_layLeaps_110 : decode cX8_layLeaps 110 = .ok (.aload_n 0, 1) := by decide +kernel
theorem dX8_layLeaps_111 : decode cX8_layLeaps 111 = .ok (.getfield 48, 3) := by decide +kernel
theorem dX8_layLeaps_114 : decode cX8_layLeaps 114 = .ok (.aload_n 0, 1) := by decide +kernel
theorem dX8_layLeaps_115 : decode cX8_layLeaps 115 = .ok (.getfield 329, 3) := by decide +kernel
theorem dX8_layLeaps_118 : decode cX8_layLeaps 118 = .ok (.iconst 1, 1) := by decide +kernel
theorem dX8_layLeaps_119 : decode cX8_layLeaps 119 = .ok (.iadd, 1) := by decide +kernel
theorem dX8_layLeaps_120 : decode cX8_layLeaps 120 = .ok (.aload_n 0, 1) := by decide +kernel
theorem dX8_layLeaps_121 : decode cX8_layLeaps 121 = .ok (.getfield 69, 3) := by decide +kernel
theorem dX8_layLeaps_124 : decode cX8_layLeaps 124 = .ok (.lastore, 1) := by decide +kernel
theorem dX8_layLeaps_125 : decode cX8_layLeaps 125 = .ok (.aload_n 0, 1) := by decide +kernel
theorem dX8_layLeaps_126 : decode cX8_layLeaps 126 = .ok (.getfield 51, 3) := by decide +kernel
theorem dX8_layLeaps_129 : decode cX8_layLeaps 129 = .ok (.aload_n 0, 1) := by decide +kernel
theorem dX8_layLeaps_130 : decode cX8_layLeaps 130 = .ok (.getfield 329, 3) := by decide +kernel
theorem dX8_layLeaps_133 : decode cX8_layLeaps 133 = .ok (.iconst 1, 1) := by decide +kernel
theorem dX8_layLeaps_134 : decode cX8_layLeaps 134 = .ok (.iadd, 1) := by decide +kernel
theorem dX8_layLeaps_135 : decode cX8_layLeaps 135 = .ok (.aload_n 0, 1) := by decide +kernel
theorem dX8_layLeaps_136 : decode cX8_layLeaps 136 = .ok (.getfield 72, 3) := by decide +kernel
theorem dX8_layLeaps_139 : decode cX8_layLeaps 139 = .ok (.lastore, 1) := by decide +kernel
theorem dX8_layLeaps_140 : decode cX8_layLeaps 140 = .ok (.aload_n 0, 1) := by decide +kernel
theorem dX8_layLeaps_141 : decode cX8_layLeaps 141 = .ok (.dup, 1) := by decide +kernel
theorem dX8_layLeaps_142 : decode cX8_layLeaps 142 = .ok (.getfield 329, 3) := by decide +kernel
theorem dX8_layLeaps_145 : decode cX8_layLeaps 145 = .ok (.iconst 2, 1) := by decide +kernel
theorem dX8_layLeaps_146 : decode cX8_layLeaps 146 = .ok (.iadd, 1) := by decide +kernel
theorem dX8_layLeaps_147 : decode cX8_layLeaps 147 = .ok (.putfield 329, 3) := by decide +kernel
theorem dX8_layLeaps_150 : decode cX8_layLeaps 150 = .ok (.iinc 2 1, 3) := by decide +kernel
theorem dX8_layLeaps_153 : decode cX8_layLeaps 153 = .ok (.goto (-146), 3) := by decide +kernel
theorem dX8_layLeaps_156 : decode cX8_layLeaps 156 = .ok (.return_, 1) := by decide +kernel
theorem dX8_where_0 : decode cX8_where 0 = .ok (.iload_n 1, 1) := by decide +kernel
theorem dX8_where_1 : decode cX8_where 1 = .ok (.invokestatic 92, 3) := by decide +kernel
theorem dX8_where_4 : decode cX8_where 4 = .ok (.ifCond .ne 7, 3) := by decide +kernel
theorem dX8_where_7 : decode cX8_where 7 = .ok (.ldc2_w 24, 3) := by decide +kernel
theorem dX8_where_10 : decode cX8_where 10 = .ok (.lreturn, 1) := by decide +kernel
theorem dX8_where_11 : decode cX8_where 11 = .ok (.aload_n 0, 1) := by decide +kernel
theorem dX8_where_12 : decode cX8_where 12 = .ok (.iload_n 1, 1) := by decide +kernel
theorem dX8_where_13 : decode cX8_where 13 = .ok (.invokevirtual 131, 3) := by decide +kernel
theorem dX8_where_16 : decode cX8_where 16 = .ok (.ifCond .eq 7, 3) := by decide +kernel
theorem dX8_where_19 : decode cX8_where 19 = .ok (.ldc2_w 332, 3) := by decide +kernel
theorem dX8_where_22 : decode cX8_where 22 = .ok (.lreturn, 1) := by decide +kernel
theorem dX8_where_23 : decode cX8_where 23 = .ok (.aload_n 0, 1) := by decide +kernel
theorem dX8_where_24 : decode cX8_where 24 = .ok (.iload_n 1, 1) := by decide +kernel
theorem dX8_where_25 : decode cX8_where 25 = .ok (.invokevirtual 334, 3) := by decide +kernel
theorem dX8_where_28 : decode cX8_where 28 = .ok (.aload_n 0, 1) := by decide +kernel
theorem dX8_where_29 : decode cX8_where 29 = .ok (.invokevirtual 320, 3) := by decide +kernel
theorem dX8_where_32 : decode cX8_where 32 = .ok (.iconst 0, 1) := by decide +kernel
theorem dX8_where_33 : decode cX8_where 33 = .ok (.istore_n 2, 1) := by decide +kernel
theorem dX8_where_34 : decode cX8_where 34 = .ok (.iload_n 2, 1) := by decide +kernel
theorem dX8_where_35 : decode cX8_where 35 = .ok (.aload_n 0, 1) := by decide +kernel
theorem dX8_where_36 : decode cX8_where 36 = .ok (.getfield 329, 3) := by decide +kernel
theorem dX8_where_39 : decode cX8_where 39 = .ok (.if_icmp .ge 25, 3) := by decide +kernel
theorem dX8_where_42 : decode cX8_where 42 = .ok (.aload_n 0, 1) := by decide +kernel
theorem dX8_where_43 : decode cX8_where 43 = .ok (.aload_n 0, 1) := by decide +kernel
theorem dX8_where_44 : decode cX8_where 44 = .ok (.getfield 48, 3) := by decide +kernel
theorem dX8_where_47 : decode cX8_where 47 = .ok (.iload_n 2, 1) := by decide +kernel
theorem dX8_where_48 : decode cX8_where 48 = .ok (.laload, 1) := by decide +kernel
theorem dX8_where_49 : decode cX8_where 49 = .ok (.aload_n 0, 1) := by decide +kernel
theorem dX8_where_50 : decode cX8_where 50 = .ok (.getfield 51, 3) := by decide +kernel
theorem dX8_where_53 : decode cX8_where 53 = .ok (.iload_n 2, 1) := by decide +kernel
theorem dX8_where_54 : decode cX8_where 54 = .ok (.laload, 1) := by decide +kernel
theorem dX8_where_55 : decode cX8_where 55 = .ok (.invokevirtual 323, 3) := by decide +kernel
theorem dX8_where_58 : decode cX8_where 58 = .ok (.iinc 2 1, 3) := by decide +kernel
theorem dX8_where_61 : decode cX8_where 61 = .ok (.goto (-27), 3) := by decide +kernel
theorem dX8_where_64 : decode cX8_where 64 = .ok (.aload_n 0, 1) := by decide +kernel
theorem dX8_where_65 : decode cX8_where 65 = .ok (.getfield 307, 3) := by decide +kernel
theorem dX8_where_68 : decode cX8_where 68 = .ok (.lconst 0, 1) := by decide +kernel
theorem dX8_where_69 : decode cX8_where 69 = .ok (.lcmp, 1) := by decide +kernel
theorem dX8_where_70 : decode cX8_where 70 = .ok (.ifCond .eq 12, 3) := by decide +kernel
theorem dX8_where_73 : decode cX8_where 73 = .ok (.aload_n 0, 1) := by decide +kernel
theorem dX8_where_74 : decode cX8_where 74 = .ok (.getfield 304, 3) := by decide +kernel
theorem dX8_where_77 : decode cX8_where 77 = .ok (.lconst 0, 1) := by decide +kernel
theorem dX8_where_78 : decode cX8_where 78 = .ok (.lcmp, 1) := by decide +kernel
theorem dX8_where_79 : decode cX8_where 79 = .ok (.ifCond .ne 9, 3) := by decide +kernel
theorem dX8_where_82 : decode cX8_where 82 = .ok (.ldc2_w 337, 3) := by decide +kernel
theorem dX8_where_85 : decode cX8_where 85 = .ok (.goto 12, 3) := by decide +kernel
theorem dX8_where_88 : decode cX8_where 88 = .ok (.aload_n 0, 1) := by decide +kernel
theorem dX8_where_89 : decode cX8_where 89 = .ok (.getfield 307, 3) := by decide +kernel
theorem dX8_where_92 : decode cX8_where 92 = .ok (.aload_n 0, 1) := by decide +kernel
theorem dX8_where_93 : decode cX8_where 93 = .ok (.getfield 304, 3) := by decide +kernel
theorem dX8_where_96 : decode cX8_where 96 = .ok (.lmul, 1) := by decide +kernel
theorem dX8_where_97 : decode cX8_where 97 = .ok (.lreturn, 1) := by decide +kernel
theorem dX8_leaps_0 : decode cX8_leaps 0 = .ok (.iload_n 1, 1) := by decide +kernel
theorem dX8_leaps_1 : decode cX8_leaps 1 = .ok (.invokestatic 92, 3) := by decide +kernel
theorem dX8_leaps_4 : decode cX8_leaps 4 = .ok (.ifCond .eq 10, 3) := by decide +kernel
theorem dX8_leaps_7 : decode cX8_leaps 7 = .ok (.iload_n 2, 1) := by decide +kernel
theorem dX8_leaps_8 : decode cX8_leaps 8 = .ok (.invokestatic 92, 3) := by decide +kernel
theorem dX8_leaps_11 : decode cX8_leaps 11 = .ok (.ifCond .ne 5, 3) := by decide +kernel
theorem dX8_leaps_14 : decode cX8_leaps 14 = .ok (.iconst (-1), 1) := by decide +kernel
theorem dX8_leaps_15 : decode cX8_leaps 15 = .ok (.ireturn, 1) := by decide +kernel
theorem dX8_leaps_16 : decode cX8_leaps 16 = .ok (.aload_n 0, 1) := by decide +kernel
theorem dX8_leaps_17 : decode cX8_leaps 17 = .ok (.iload_n 1, 1) := by decide +kernel
theorem dX8_leaps_18 : decode cX8_leaps 18 = .ok (.invokevirtual 131, 3) := by decide +kernel
theorem dX8_leaps_21 : decode cX8_leaps 21 = .ok (.ifCond .eq 6, 3) := by decide +kernel
theorem dX8_leaps_24 : decode cX8_leaps 24 = .ok (.bipush (-2), 2) := by decide +kernel
theorem dX8_leaps_26 : decode cX8_leaps 26 = .ok (.ireturn, 1) := by decide +kernel
theorem dX8_leaps_27 : decode cX8_leaps 27 = .ok (.aload_n 0, 1) := by decide +kernel
theorem dX8_leaps_28 : decode cX8_leaps 28 = .ok (.getfield 13, 3) := by decide +kernel
theorem dX8_leaps_31 : decode cX8_leaps 31 = .ok (.iload_n 2, 1) := by decide +kernel
theorem dX8_leaps_32 : decode cX8_leaps 32 = .ok (.laload, 1) := by decide +kernel
theorem dX8_leaps_33 : decode cX8_leaps 33 = .ok (.ldc2_w 339, 3) := by decide +kernel
theorem dX8_leaps_36 : decode cX8_leaps 36 = .ok (.ldc2_w 341, 3) := by decide +kernel
theorem dX8_leaps_39 : decode cX8_leaps 39 = .ok (.invokestatic 62, 3) := by decide +kernel
theorem dX8_leaps_42 : decode cX8_leaps 42 = .ok (.ifCond .eq 21, 3) := by decide +kernel
theorem dX8_leaps_45 : decode cX8_leaps 45 = .ok (.aload_n 0, 1) := by decide +kernel
theorem dX8_leaps_46 : decode cX8_leaps 46 = .ok (.getfield 17, 3) := by decide +kernel
theorem dX8_leaps_49 : decode cX8_leaps 49 = .ok (.iload_n 2, 1) := by decide +kernel
theorem dX8_leaps_50 : decode cX8_leaps 50 = .ok (.laload, 1) := by decide +kernel
theorem dX8_leaps_51 : decode cX8_leaps 51 = .ok (.ldc2_w 339, 3) := by decide +kernel
theorem dX8_leaps_54 : decode cX8_leaps 54 = .ok (.ldc2_w 341, 3) := by decide +kernel
theorem dX8_leaps_57 : decode cX8_leaps 57 = .ok (.invokestatic 62, 3) := by decide +kernel
theorem dX8_leaps_60 : decode cX8_leaps 60 = .ok (.ifCond .ne 6, 3) := by decide +kernel
theorem dX8_leaps_63 : decode cX8_leaps 63 = .ok (.bipush (-4), 2) := by decide +kernel
theorem dX8_leaps_65 : decode cX8_leaps 65 = .ok (.ireturn, 1) := by decide +kernel
theorem dX8_leaps_66 : decode cX8_leaps 66 = .ok (.aload_n 0, 1) := by decide +kernel
theorem dX8_leaps_67 : decode cX8_leaps 67 = .ok (.iload_n 1, 1) := by decide +kernel
theorem dX8_leaps_68 : decode cX8_leaps 68 = .ok (.invokevirtual 334, 3) := by decide +kernel
theorem dX8_leaps_71 : decode cX8_leaps 71 = .ok (.iconst 0, 1) := by decide +kernel
theorem dX8_leaps_72 : decode cX8_leaps 72 = .ok (.istore_n 3, 1) := by decide +kernel
theorem dX8_leaps_73 : decode cX8_leaps 73 = .ok (.iload_n 3, 1) := by decide +kernel
theorem dX8_leaps_74 : decode cX8_leaps 74 = .ok (.sipush 3721, 3) := by decide +kernel
theorem dX8_leaps_77 : decode cX8_leaps 77 = .ok (.if_icmp .ge 17, 3) := by decide +kernel
theorem dX8_leaps_80 : decode cX8_leaps 80 = .ok (.aload_n 0, 1) := by decide +kernel
theorem dX8_leaps_81 : decode cX8_leaps 81 = .ok (.getfield 54, 3) := by decide +kernel
theorem dX8_leaps_84 : decode cX8_leaps 84 = .ok (.iload_n 3, 1) := by decide +kernel
theorem dX8_leaps_85 : decode cX8_leaps 85 = .ok (.bipush (-4), 2) := by decide +kernel
theorem dX8_leaps_87 : decode cX8_leaps 87 = .ok (.iastore, 1) := by decide +kernel
theorem dX8_leaps_88 : decode cX8_leaps 88 = .ok (.iinc 3 1, 3) := by decide +kernel
theorem dX8_leaps_91 : decode cX8_leaps 91 = .ok (.goto (-18), 3) := by decide +kernel
theorem dX8_leaps_94 : decode cX8_leaps 94 = .ok (.ldc2_w 343, 3) := by decide +kernel
theorem dX8_leaps_97 : decode cX8_leaps 97 = .ok (.aload_n 0, 1) := by decide +kernel
theorem dX8_leaps_98 : decode cX8_leaps 98 = .ok (.getfield 13, 3) := by decide +kernel
theorem dX8_leaps_101 : decode cX8_leaps 101 = .ok (.iload_n 2, 1) := by decide +kernel
theorem dX8_leaps_102 : decode cX8_leaps 102 = .ok (.laload, 1) := by decide +kernel
theorem dX8_leaps_103 : decode cX8_leaps 103 = .ok (.ldc2_w 341, 3) := by decide +kernel
theorem dX8_leaps_106 : decode cX8_leaps 106 = .ok (.ladd, 1) := by decide +kernel
theorem dX8_leaps_107 : decode cX8_leaps 107 = .ok (.lmul, 1) := by decide +kernel
theorem dX8_leaps_108 : decode cX8_leaps 108 = .ok (.aload_n 0, 1) := by decide +kernel
theorem dX8_leaps_109 : decode cX8_leaps 109 = .ok (.getfield 17, 3) := by decide +kernel
theorem dX8_leaps_112 : decode cX8_leaps 112 = .ok (.iload_n 2, 1) := by decide +kernel
theorem dX8_leaps_113 : decode cX8_leaps 113 = .ok (.laload, 1) := by decide +kernel
theorem dX8_leaps_114 : decode cX8_leaps 114 = .ok (.ladd, 1) := by decide +kernel
theorem dX8_leaps_115 : decode cX8_leaps 115 = .ok (.ldc2_w 341, 3) := by decide +kernel
theorem dX8_leaps_118 : decode cX8_leaps 118 = .ok (.ladd, 1) := by decide +kernel
theorem dX8_leaps_119 : decode cX8_leaps 119 = .ok (.l2i, 1) := by decide +kernel
theorem dX8_leaps_120 : decode cX8_leaps 120 = .ok (.istore_n 3, 1) := by decide +kernel
theorem dX8_leaps_121 : decode cX8_leaps 121 = .ok (.aload_n 0, 1) := by decide +kernel
theorem dX8_leaps_122 : decode cX8_leaps 122 = .ok (.getfield 54, 3) := by decide +kernel
theorem dX8_leaps_125 : decode cX8_leaps 125 = .ok (.sipush 1860, 3) := by decide +kernel
theorem dX8_leaps_128 : decode cX8_leaps 128 = .ok (.iconst 0, 1) := by decide +kernel
theorem dX8_leaps_129 : decode cX8_leaps 129 = .ok (.iastore, 1) := by decide +kernel
theorem dX8_leaps_130 : decode cX8_leaps 130 = .ok (.aload_n 0, 1) := by decide +kernel
theorem dX8_leaps_131 : decode cX8_leaps 131 = .ok (.getfield 57, 3) := by decide +kernel
theorem dX8_leaps_134 : decode cX8_leaps 134 = .ok (.iconst 0, 1) := by decide +kernel
theorem dX8_leaps_135 : decode cX8_leaps 135 = .ok (.sipush 1860, 3) := by decide +kernel
theorem dX8_leaps_138 : decode cX8_leaps 138 = .ok (.iastore, 1) := by decide +kernel
theorem dX8_leaps_139 : decode cX8_leaps 139 = .ok (.iconst 1, 1) := by decide +kernel
theorem dX8_leaps_140 : decode cX8_leaps 140 = .ok (.istore 4, 2) := by decide +kernel
theorem dX8_leaps_142 : decode cX8_leaps 142 = .ok (.iconst 0, 1) := by decide +kernel
theorem dX8_leaps_143 : decode cX8_leaps 143 = .ok (.istore 5, 2) := by decide +kernel
theorem dX8_leaps_145 : decode cX8_leaps 145 = .ok (.iload 5, 2) := by decide +kernel
theorem dX8_leaps_147 : decode cX8_leaps 147 = .ok (.iload 4, 2) := by decide +kernel
theorem dX8_leaps_149 : decode cX8_leaps 149 = .ok (.if_icmp .ge 169, 3) := by decide +kernel
theorem dX8_leaps_152 : decode cX8_leaps 152 = .ok (.aload_n 0, 1) := by decide +kernel
theorem dX8_leaps_153 : decode cX8_leaps 153 = .ok (.getfield 54, 3) := by decide +kernel
theorem dX8_leaps_156 : decode cX8_leaps 156 = .ok (.iload_n 3, 1) := by decide +kernel
theorem dX8_leaps_157 : decode cX8_leaps 157 = .ok (.iaload, 1) := by decide +kernel
theorem dX8_leaps_158 : decode cX8_leaps 158 = .ok (.bipush (-4), 2) := by decide +kernel
theorem dX8_leaps_160 : decode cX8_leaps 160 = .ok (.if_icmp .ne 158, 3) := by decide +kernel
theorem dX8_leaps_163 : decode cX8_leaps 163 = .ok (.iconst 0, 1) := by decide +kernel
theorem dX8_leaps_164 : decode cX8_leaps 164 = .ok (.istore 6, 2) := by decide +kernel
theorem dX8_leaps_166 : decode cX8_leaps 166 = .ok (.iload 6, 2) := by decide +kernel
theorem dX8_leaps_168 : decode cX8_leaps 168 = .ok (.aload_n 0, 1) := by decide +kernel
theorem dX8_leaps_169 : decode cX8_leaps 169 = .ok (.getfield 329, 3) := by decide +kernel
theorem dX8_leaps_172 : decode cX8_leaps 172 = .ok (.if_icmp .ge 140, 3) := by decide +kernel
theorem dX8_leaps_175 : decode cX8_leaps 175 = .ok (.aload_n 0, 1) := by decide +kernel
theorem dX8_leaps_176 : decode cX8_leaps 176 = .ok (.getfield 57, 3) := by decide +kernel
theorem dX8_leaps_179 : decode cX8_leaps 179 = .ok (.iload 5, 2) := by decide +kernel
theorem dX8_leaps_181 : decode cX8_leaps 181 = .ok (.iaload, 1) := by decide +kernel
theorem dX8_leaps_182 : decode cX8_leaps 182 = .ok (.bipush 61, 2) := by decide +kernel
theorem dX8_leaps_184 : decode cX8_leaps 184 = .ok (.idiv, 1) := by decide +kernel
theorem dX8_leaps_185 : decode cX8_leaps 185 = .ok (.i2l, 1) := by decide +kernel
theorem dX8_leaps_186 : decode cX8_leaps 186 = .ok (.aload_n 0, 1) := by decide +kernel
theorem dX8_leaps_187 : decode cX8_leaps 187 = .ok (.getfield 48, 3) := by decide +kernel
theorem dX8_leaps_190 : decode cX8_leaps 190 = .ok (.iload 6, 2) := by decide +kernel
theorem dX8_leaps_192 : decode cX8_leaps 192 = .ok (.laload, 1) := by decide +kernel
theorem dX8_leaps_193 : decode cX8_leaps 193 = .ok (.ladd, 1) := by decide +kernel
theorem dX8_leaps_194 : decode cX8_leaps 194 = .ok (.lstore 7, 2) := by decide +kernel
theorem dX8_leaps_196 : decode cX8_leaps 196 = .ok (.aload_n 0, 1) := by decide +kernel
theorem dX8_leaps_197 : decode cX8_leaps 197 = .ok (.getfield 57, 3) := by decide +kernel
theorem dX8_leaps_200 : decode cX8_leaps 200 = .ok (.iload 5, 2) := by decide +kernel
theorem dX8_leaps_202 : decode cX8_leaps 202 = .ok (.iaload, 1) := by decide +kernel
theorem dX8_leaps_203 : decode cX8_leaps 203 = .ok (.bipush 61, 2) := by decide +kernel
theorem dX8_leaps_205 : decode cX8_leaps 205 = .ok (.irem, 1) := by decide +kernel
theorem dX8_leaps_206 : decode cX8_leaps 206 = .ok (.i2l, 1) := by decide +kernel
theorem dX8_leaps_207 : decode cX8_leaps 207 = .ok (.aload_n 0, 1) := by decide +kernel
theorem dX8_leaps_208 : decode cX8_leaps 208 = .ok (.getfield 51, 3) := by decide +kernel
theorem dX8_leaps_211 : decode cX8_leaps 211 = .ok (.iload 6, 2) := by decide +kernel
theorem dX8_leaps_213 : decode cX8_leaps 213 = .ok (.laload, 1) := by decide +kernel
theorem dX8_leaps_214 : decode cX8_leaps 214 = .ok (.ladd, 1) := by decide +kernel
theorem dX8_leaps_215 : decode cX8_leaps 215 = .ok (.lstore 9, 2) := by decide +kernel
theorem dX8_leaps_217 : decode cX8_leaps 217 = .ok (.lload 7, 2) := by decide +kernel
theorem dX8_leaps_219 : decode cX8_leaps 219 = .ok (.lconst 0, 1) := by decide +kernel
theorem dX8_leaps_220 : decode cX8_leaps 220 = .ok (.ldc2_w 345, 3) := by decide +kernel
theorem dX8_leaps_223 : decode cX8_leaps 223 = .ok (.invokestatic 62, 3) := by decide +kernel
theorem dX8_leaps_226 : decode cX8_leaps 226 = .ok (.ifCond .eq 80, 3) := by decide +kernel
theorem dX8_leaps_229 : decode cX8_leaps 229 = .ok (.lload 9, 2) := by decide +kernel
theorem dX8_leaps_231 : decode cX8_leaps 231 = .ok (.lconst 0, 1) := by decide +kernel
theorem dX8_leaps_232 : decode cX8_leaps 232 = .ok (.ldc2_w 345, 3) := by decide +kernel
theorem dX8_leaps_235 : decode cX8_leaps 235 = .ok (.invokestatic 62, 3) := by decide +kernel
theorem dX8_leaps_238 : decode cX8_leaps 238 = .ok (.ifCond .eq 68, 3) := by decide +kernel
theorem dX8_leaps_241 : decode cX8_leaps 241 = .ok (.aload_n 0, 1) := by decide +kernel
theorem dX8_leaps_242 : decode cX8_leaps 242 = .ok (.getfield 54, 3) := by decide +kernel
theorem dX8_leaps_245 : decode cX8_leaps 245 = .ok (.ldc2_w 343, 3) := by decide +kernel
theorem dX8_leaps_248 : decode cX8_leaps 248 = .ok (.lload 7, 2) := by decide +kernel
theorem dX8_leaps_250 : decode cX8_leaps 250 = .ok (.lmul, 1) := by decide +kernel
theorem dX8_leaps_251 : decode cX8_leaps 251 = .ok (.lload 9, 2) := by decide +kernel
theorem dX8_leaps_253 : decode cX8_leaps 253 = .ok (.ladd, 1) := by decide +kernel
theorem dX8_leaps_254 : decode cX8_leaps 254 = .ok (.l2i, 1) := by decide +kernel
theorem dX8_leaps_255 : decode cX8_leaps 255 = .ok (.iaload, 1) := by decide +kernel
theorem dX8_leaps_256 : decode cX8_leaps 256 = .ok (.bipush (-4), 2) := by decide +kernel
theorem dX8_leaps_258 : decode cX8_leaps 258 = .ok (.if_icmp .ne 48, 3) := by decide +kernel
theorem dX8_leaps_261 : decode cX8_leaps 261 = .ok (.ldc2_w 343, 3) := by decide +kernel
theorem dX8_leaps_264 : decode cX8_leaps 264 = .ok (.lload 7, 2) := by decide +kernel
theorem dX8_leaps_266 : decode cX8_leaps 266 = .ok (.lmul, 1) := by decide +kernel
theorem dX8_leaps_267 : decode cX8_leaps 267 = .ok (.lload 9, 2) := by decide +kernel
theorem dX8_leaps_269 : decode cX8_leaps 269 = .ok (.ladd, 1) := by decide +kernel
theorem dX8_leaps_270 : decode cX8_leaps 270 = .ok (.l2i, 1) := by decide +kernel
theorem dX8_leaps_271 : decode cX8_leaps 271 = .ok (.istore 11, 2) := by decide +kernel
theorem dX8_leaps_273 : decode cX8_leaps 273 = .ok (.aload_n 0, 1) := by decide +kernel
theorem dX8_leaps_274 : decode cX8_leaps 274 = .ok (.getfield 54, 3) := by decide +kernel
theorem dX8_leaps_277 : decode cX8_leaps 277 = .ok (.iload 11, 2) := by decide +kernel
theorem dX8_leaps_279 : decode cX8_leaps 279 = .ok (.aload_n 0, 1) := by decide +kernel
theorem dX8_leaps_280 : decode cX8_leaps 280 = .ok (.getfield 54, 3) := by decide +kernel
theorem dX8_leaps_283 : decode cX8_leaps 283 = .ok (.aload_n 0, 1) := by decide +kernel
theorem dX8_leaps_284 : decode cX8_leaps 284 = .ok (.getfield 57, 3) := by decide +kernel
theorem dX8_leaps_287 : decode cX8_leaps 287 = .ok (.iload 5, 2) := by decide +kernel
theorem dX8_leaps_289 : decode cX8_leaps 289 = .ok (.iaload, 1) := by decide +kernel
theorem dX8_leaps_290 : decode cX8_leaps 290 = .ok (.iaload, 1) := by decide +kernel
theorem dX8_leaps_291 : decode cX8_leaps 291 = .ok (.iconst 1, 1) := by decide +kernel
theorem dX8_leaps_292 : decode cX8_leaps 292 = .ok (.iadd, 1) := by decide +kernel
theorem dX8_leaps_293 : decode cX8_leaps 293 = .ok (.iastore, 1) := by decide +kernel
theorem dX8_leaps_294 : decode cX8_leaps 294 = .ok (.aload_n 0, 1) := by decide +kernel
theorem dX8_leaps_295 : decode cX8_leaps 295 = .ok (.getfield 57, 3) := by decide +kernel
theorem dX8_leaps_298 : decode cX8_leaps 298 = .ok (.iload 4, 2) := by decide +kernel
theorem dX8_leaps_300 : decode cX8_leaps 300 = .ok (.iload 11, 2) := by decide +kernel
theorem dX8_leaps_302 : decode cX8_leaps 302 = .ok (.iastore, 1) := by decide +kernel
theorem dX8_leaps_303 : decode cX8_leaps 303 = .ok (.iinc 4 1, 3) := by decide +kernel
theorem dX8_leaps_306 : decode cX8_leaps 306 = .ok (.iinc 6 1, 3) := by decide +kernel
theorem dX8_leaps_309 : decode cX8_leaps 309 = .ok (.goto (-143), 3) := by decide +kernel
theorem dX8_leaps_312 : decode cX8_leaps 312 = .ok (.iinc 5 1, 3) := by decide +kernel
theorem dX8_leaps_315 : decode cX8_leaps 315 = .ok (.goto (-170), 3) := by decide +kernel
theorem dX8_leaps_318 : decode cX8_leaps 318 = .ok (.aload_n 0, 1) := by decide +kernel
theorem dX8_leaps_319 : decode cX8_leaps 319 = .ok (.getfield 54, 3) := by decide +kernel
theorem dX8_leaps_322 : decode cX8_leaps 322 = .ok (.iload_n 3, 1) := by decide +kernel
theorem dX8_leaps_323 : decode cX8_leaps 323 = .ok (.iaload, 1) := by decide +kernel
theorem dX8_leaps_324 : decode cX8_leaps 324 = .ok (.ireturn, 1) := by decide +kernel
theorem dJ9_floorDiv_f86c9_0 : decode cJ9_floorDiv_f86c9 0 = .ok (.lload_n 0, 1) := by decide +kernel
theorem dJ9_floorDiv_f86c9_1 : decode cJ9_floorDiv_f86c9 1 = .ok (.lload_n 2, 1) := by decide +kernel
theorem dJ9_floorDiv_f86c9_2 : decode cJ9_floorDiv_f86c9 2 = .ok (.ldiv, 1) := by decide +kernel
theorem dJ9_floorDiv_f86c9_3 : decode cJ9_floorDiv_f86c9 3 = .ok (.lstore 4, 2) := by decide +kernel
theorem dJ9_floorDiv_f86c9_5 : decode cJ9_floorDiv_f86c9 5 = .ok (.lload_n 0, 1) := by decide +kernel
theorem dJ9_floorDiv_f86c9_6 : decode cJ9_floorDiv_f86c9 6 = .ok (.lload_n 2, 1) := by decide +kernel
theorem dJ9_floorDiv_f86c9_7 : decode cJ9_floorDiv_f86c9 7 = .ok (.lxor, 1) := by decide +kernel
theorem dJ9_floorDiv_f86c9_8 : decode cJ9_floorDiv_f86c9 8 = .ok (.lconst 0, 1) := by decide +kernel
theorem dJ9_floorDiv_f86c9_9 : decode cJ9_floorDiv_f86c9 9 = .ok (.lcmp, 1) := by decide +kernel
theorem dJ9_floorDiv_f86c9_10 : decode cJ9_floorDiv_f86c9 10 = .ok (.ifCond .ge 17, 3) := by decide +kernel
theorem dJ9_floorDiv_f86c9_13 : decode cJ9_floorDiv_f86c9 13 = .ok (.lload 4, 2) := by decide +kernel
theorem dJ9_floorDiv_f86c9_15 : decode cJ9_floorDiv_f86c9 15 = .ok (.lload_n 2, 1) := by decide +kernel
theorem dJ9_floorDiv_f86c9_16 : decode cJ9_floorDiv_f86c9 16 = .ok (.lmul, 1) := by decide +kernel
theorem dJ9_floorDiv_f86c9_17 : decode cJ9_floorDiv_f86c9 17 = .ok (.lload_n 0, 1) := by decide +kernel
theorem dJ9_floorDiv_f86c9_18 : decode cJ9_floorDiv_f86c9 18 = .ok (.lcmp, 1) := by decide +kernel
theorem dJ9_floorDiv_f86c9_19 : decode cJ9_floorDiv_f86c9 19 = .ok (.ifCond .eq 8, 3) := by decide +kernel
theorem dJ9_floorDiv_f86c9_22 : decode cJ9_floorDiv_f86c9 22 = .ok (.lload 4, 2) := by decide +kernel
theorem dJ9_floorDiv_f86c9_24 : decode cJ9_floorDiv_f86c9 24 = .ok (.lconst 1, 1) := by decide +kernel
theorem dJ9_floorDiv_f86c9_25 : decode cJ9_floorDiv_f86c9 25 = .ok (.lsub, 1) := by decide +kernel
theorem dJ9_floorDiv_f86c9_26 : decode cJ9_floorDiv_f86c9 26 = .ok (.lreturn, 1) := by decide +kernel
theorem dJ9_floorDiv_f86c9_27 : decode cJ9_floorDiv_f86c9 27 = .ok (.lload 4, 2) := by decide +kernel
theorem dJ9_floorDiv_f86c9_29 : decode cJ9_floorDiv_f86c9 29 = .ok (.lreturn, 1) := by decide +kernel
theorem dJ9_floorMod_f86c9_0 : decode cJ9_floorMod_f86c9 0 = .ok (.lload_n 0, 1) := by decide +kernel
theorem dJ9_floorMod_f86c9_1 : decode cJ9_floorMod_f86c9 1 = .ok (.lload_n 2, 1) := by decide +kernel
theorem dJ9_floorMod_f86c9_2 : decode cJ9_floorMod_f86c9 2 = .ok (.lrem, 1) := by decide +kernel
theorem dJ9_floorMod_f86c9_3 : decode cJ9_floorMod_f86c9 3 = .ok (.lstore 4, 2) := by decide +kernel
theorem dJ9_floorMod_f86c9_5 : decode cJ9_floorMod_f86c9 5 = .ok (.lload_n 0, 1) := by decide +kernel
theorem dJ9_floorMod_f86c9_6 : decode cJ9_floorMod_f86c9 6 = .ok (.lload_n 2, 1) := by decide +kernel
theorem dJ9_floorMod_f86c9_7 : decode cJ9_floorMod_f86c9 7 = .ok (.lxor, 1) := by decide +kernel
theorem dJ9_floorMod_f86c9_8 : decode cJ9_floorMod_f86c9 8 = .ok (.lconst 0, 1) := by decide +kernel
theorem dJ9_floorMod_f86c9_9 : decode cJ9_floorMod_f86c9 9 = .ok (.lcmp, 1) := by decide +kernel
theorem dJ9_floorMod_f86c9_10 : decode cJ9_floorMod_f86c9 10 = .ok (.ifCond .ge 15, 3) := by decide +kernel
theorem dJ9_floorMod_f86c9_13 : decode cJ9_floorMod_f86c9 13 = .ok (.lload 4, 2) := by decide +kernel
theorem dJ9_floorMod_f86c9_15 : decode cJ9_floorMod_f86c9 15 = .ok (.lconst 0, 1) := by decide +kernel
theorem dJ9_floorMod_f86c9_16 : decode cJ9_floorMod_f86c9 16 = .ok (.lcmp, 1) := by decide +kernel
theorem dJ9_floorMod_f86c9_17 : decode cJ9_floorMod_f86c9 17 = .ok (.ifCond .eq 8, 3) := by decide +kernel
theorem dJ9_floorMod_f86c9_20 : decode cJ9_floorMod_f86c9 20 = .ok (.lload 4, 2) := by decide +kernel
theorem dJ9_floorMod_f86c9_22 : decode cJ9_floorMod_f86c9 22 = .ok (.lload_n 2, 1) := by decide +kernel
theorem dJ9_floorMod_f86c9_23 : decode cJ9_floorMod_f86c9 23 = .ok (.ladd, 1) := by decide +kernel
theorem dJ9_floorMod_f86c9_24 : decode cJ9_floorMod_f86c9 24 = .ok (.lreturn, 1) := by decide +kernel
theorem dJ9_floorMod_f86c9_25 : decode cJ9_floorMod_f86c9 25 = .ok (.lload 4, 2) := by decide +kernel
theorem dJ9_floorMod_f86c9_27 : decode cJ9_floorMod_f86c9 27 = .ok (.lreturn, 1) := by decide +kernel
theorem dJ9_abs_067f4_0 : decode cJ9_abs_067f4 0 = .ok (.lload_n 0, 1) := by decide +kernel
theorem dJ9_abs_067f4_1 : decode cJ9_abs_067f4 1 = .ok (.lconst 0, 1) := by decide +kernel
theorem dJ9_abs_067f4_2 : decode cJ9_abs_067f4 2 = .ok (.lcmp, 1) := by decide +kernel
theorem dJ9_abs_067f4_3 : decode cJ9_abs_067f4 3 = .ok (.ifCond .ge 8, 3) := by decide +kernel
theorem dJ9_abs_067f4_6 : decode cJ9_abs_067f4 6 = .ok (.lload_n 0, 1) := by decide +kernel
theorem dJ9_abs_067f4_7 : decode cJ9_abs_067f4 7 = .ok (.lneg, 1) := by decide +kernel
theorem dJ9_abs_067f4_8 : decode cJ9_abs_067f4 8 = .ok (.goto 4, 3) := by decide +kernel
theorem dJ9_abs_067f4_11 : decode cJ9_abs_067f4 11 = .ok (.lload_n 0, 1) := by decide +kernel
theorem dJ9_abs_067f4_12 : decode cJ9_abs_067f4 12 = .ok (.lreturn, 1) := by decide +kernel
theorem dJ9_max_f86c9_0 : decode cJ9_max_f86c9 0 = .ok (.lload_n 0, 1) := by decide +kernel
theorem dJ9_max_f86c9_1 : decode cJ9_max_f86c9 1 = .ok (.lload_n 2, 1) := by decide +kernel
theorem dJ9_max_f86c9_2 : decode cJ9_max_f86c9 2 = .ok (.lcmp, 1) := by decide +kernel
theorem dJ9_max_f86c9_3 : decode cJ9_max_f86c9 3 = .ok (.ifCond .lt 7, 3) := by decide +kernel
theorem dJ9_max_f86c9_6 : decode cJ9_max_f86c9 6 = .ok (.lload_n 0, 1) := by decide +kernel
theorem dJ9_max_f86c9_7 : decode cJ9_max_f86c9 7 = .ok (.goto 4, 3) := by decide +kernel
theorem dJ9_max_f86c9_10 : decode cJ9_max_f86c9 10 = .ok (.lload_n 2, 1) := by decide +kernel
theorem dJ9_max_f86c9_11 : decode cJ9_max_f86c9 11 = .ok (.lreturn, 1) := by decide +kernel
theorem dJ9_min_f86c9_0 : decode cJ9_min_f86c9 0 = .ok (.lload_n 0, 1) := by decide +kernel
theorem dJ9_min_f86c9_1 : decode cJ9_min_f86c9 1 = .ok (.lload_n 2, 1) := by decide +kernel
theorem dJ9_min_f86c9_2 : decode cJ9_min_f86c9 2 = .ok (.lcmp, 1) := by decide +kernel
theorem dJ9_min_f86c9_3 : decode cJ9_min_f86c9 3 = .ok (.ifCond .gt 7, 3) := by decide +kernel
theorem dJ9_min_f86c9_6 : decode cJ9_min_f86c9 6 = .ok (.lload_n 0, 1) := by decide +kernel
theorem dJ9_min_f86c9_7 : decode cJ9_min_f86c9 7 = .ok (.goto 4, 3) := by decide +kernel
theorem dJ9_min_f86c9_10 : decode cJ9_min_f86c9 10 = .ok (.lload_n 2, 1) := by decide +kernel
theorem dJ9_min_f86c9_11 : decode cJ9_min_f86c9 11 = .ok (.lreturn, 1) := by decide +kernel
theorem dJ7_fill_d0a16_0 : decode cJ7_fill_d0a16 0 = .ok (.iconst 0, 1) := by decide +kernel
theorem dJ7_fill_d0a16_1 : decode cJ7_fill_d0a16 1 = .ok (.istore_n 3, 1) := by decide +kernel
theorem dJ7_fill_d0a16_2 : decode cJ7_fill_d0a16 2 = .ok (.aload_n 0, 1) := by decide +kernel
theorem dJ7_fill_d0a16_3 : decode cJ7_fill_d0a16 3 = .ok (.arraylength, 1) := by decide +kernel
theorem dJ7_fill_d0a16_4 : decode cJ7_fill_d0a16 4 = .ok (.istore 4, 2) := by decide +kernel
theorem dJ7_fill_d0a16_6 : decode cJ7_fill_d0a16 6 = .ok (.iload_n 3, 1) := by decide +kernel
theorem dJ7_fill_d0a16_7 : decode cJ7_fill_d0a16 7 = .ok (.iload 4, 2) := by decide +kernel
theorem dJ7_fill_d0a16_9 : decode cJ7_fill_d0a16 9 = .ok (.if_icmp .ge 13, 3) := by decide +kernel
theorem dJ7_fill_d0a16_12 : decode cJ7_fill_d0a16 12 = .ok (.aload_n 0, 1) := by decide +kernel
theorem dJ7_fill_d0a16_13 : decode cJ7_fill_d0a16 13 = .ok (.iload_n 3, 1) := by decide +kernel
theorem dJ7_fill_d0a16_14 : decode cJ7_fill_d0a16 14 = .ok (.lload_n 1, 1) := by decide +kernel
theorem dJ7_fill_d0a16_15 : decode cJ7_fill_d0a16 15 = .ok (.lastore, 1) := by decide +kernel
theorem dJ7_fill_d0a16_16 : decode cJ7_fill_d0a16 16 = .ok (.iinc 3 1, 3) := by decide +kernel
theorem dJ7_fill_d0a16_19 : decode cJ7_fill_d0a16 19 = .ok (.goto (-13), 3) := by decide +kernel
theorem dJ7_fill_d0a16_22 : decode cJ7_fill_d0a16 22 = .ok (.return_, 1) := by decide +kernel
theorem dJ7_fill_53178_0 : decode cJ7_fill_53178 0 = .ok (.iconst 0, 1) := by decide +kernel
theorem dJ7_fill_53178_1 : decode cJ7_fill_53178 1 = .ok (.istore_n 2, 1) := by decide +kernel
theorem dJ7_fill_53178_2 : decode cJ7_fill_53178 2 = .ok (.aload_n 0, 1) := by decide +kernel
theorem dJ7_fill_53178_3 : decode cJ7_fill_53178 3 = .ok (.arraylength, 1) := by decide +kernel
theorem dJ7_fill_53178_4 : decode cJ7_fill_53178 4 = .ok (.istore_n 3, 1) := by decide +kernel
theorem dJ7_fill_53178_5 : decode cJ7_fill_53178 5 = .ok (.iload_n 2, 1) := by decide +kernel
theorem dJ7_fill_53178_6 : decode cJ7_fill_53178 6 = .ok (.iload_n 3, 1) := by decide +kernel
theorem dJ7_fill_53178_7 : decode cJ7_fill_53178 7 = .ok (.if_icmp .ge 13, 3) := by decide +kernel
theorem dJ7_fill_53178_10 : decode cJ7_fill_53178 10 = .ok (.aload_n 0, 1) := by decide +kernel
theorem dJ7_fill_53178_11 : decode cJ7_fill_53178 11 = .ok (.iload_n 2, 1) := by decide +kernel
theorem dJ7_fill_53178_12 : decode cJ7_fill_53178 12 = .ok (.iload_n 1, 1) := by decide +kernel
theorem dJ7_fill_53178_13 : decode cJ7_fill_53178 13 = .ok (.iastore, 1) := by decide +kernel
theorem dJ7_fill_53178_14 : decode cJ7_fill_53178 14 = .ok (.iinc 2 1, 3) := by decide +kernel
theorem dJ7_fill_53178_17 : decode cJ7_fill_53178 17 = .ok (.goto (-12), 3) := by decide +kernel
theorem dJ7_fill_53178_20 : decode cJ7_fill_53178 20 = .ok (.return_, 1) := by decide +kernel
