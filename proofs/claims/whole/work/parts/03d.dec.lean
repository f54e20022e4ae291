theorem dX11_init_0 : decode bX11_init 0 = .ok (.aload_n 0, 1) := by decide +kernel
theorem dX11_init_1 : decode bX11_init 1 = .ok (.invokespecial 1, 3) := by decide +kernel
theorem dX11_init_4 : decode bX11_init 4 = .ok (.aload_n 0, 1) := by decide +kernel
theorem dX11_init_5 : decode bX11_init 5 = .ok (.iconst 4, 1) := by decide +kernel
theorem dX11_init_6 : decode bX11_init 6 = .ok (.newarray .int, 2) := by decide +kernel
theorem dX11_init_8 : decode bX11_init 8 = .ok (.putfield 7, 3) := by decide +kernel
theorem dX11_init_11 : decode bX11_init 11 = .ok (.aload_n 0, 1) := by decide +kernel
theorem dX11_init_12 : decode bX11_init 12 = .ok (.iconst 4, 1) := by decide +kernel
theorem dX11_init_13 : decode bX11_init 13 = .ok (.newarray .int, 2) := by decide +kernel
theorem dX11_init_15 : decode bX11_init 15 = .ok (.putfield 13, 3) := by decide +kernel
theorem dX11_init_18 : decode bX11_init 18 = .ok (.aload_n 0, 1) := by decide +kernel
theorem dX11_init_19 : decode bX11_init 19 = .ok (.sipush 240, 3) := by decide +kernel
theorem dX11_init_22 : decode bX11_init 22 = .ok (.newarray .long, 2) := by decide +kernel
theorem dX11_init_24 : decode bX11_init 24 = .ok (.putfield 16, 3) := by decide +kernel
theorem dX11_init_27 : decode bX11_init 27 = .ok (.aload_n 0, 1) := by decide +kernel
theorem dX11_init_28 : decode bX11_init 28 = .ok (.bipush 60, 2) := by decide +kernel
theorem dX11_init_30 : decode bX11_init 30 = .ok (.newarray .long, 2) := by decide +kernel
theorem dX11_init_32 : decode bX11_init 32 = .ok (.putfield 20, 3) := by decide +kernel
theorem dX11_init_35 : decode bX11_init 35 = .ok (.aload_n 0, 1) := by decide +kernel
theorem dX11_init_36 : decode bX11_init 36 = .ok (.sipush 600, 3) := by decide +kernel
theorem dX11_init_39 : decode bX11_init 39 = .ok (.newarray .byte, 2) := by decide +kernel
theorem dX11_init_41 : decode bX11_init 41 = .ok (.putfield 23, 3) := by decide +kernel
theorem dX11_init_44 : decode bX11_init 44 = .ok (.aload_n 0, 1) := by decide +kernel
theorem dX11_init_45 : decode bX11_init 45 = .ok (.iconst (-1), 1) := by decide +kernel
theorem dX11_init_46 : decode bX11_init 46 = .ok (.putfield 27, 3) := by decide +kernel
theorem dX11_init_49 : decode bX11_init 49 = .ok (.aload_n 0, 1) := by decide +kernel
theorem dX11_init_50 : decode bX11_init 50 = .ok (.iconst 5, 1) := by decide +kernel
theorem dX11_init_51 : decode bX11_init 51 = .ok (.newarray .int, 2) := by decide +kernel
theorem dX11_init_53 : decode bX11_init 53 = .ok (.putfield 31, 3) := by decide +kernel
theorem dX11_init_56 : decode bX11_init 56 = .ok (.aload_n 0, 1) := by decide +kernel
theorem dX11_init_57 : decode bX11_init 57 = .ok (.bipush 40, 2) := by decide +kernel
theorem dX11_init_59 : decode bX11_init 59 = .ok (.newarray .int, 2) := by decide +kernel
theorem dX11_init_61 : decode bX11_init 61 = .ok (.putfield 34, 3) := by decide +kernel
theorem dX11_init_64 : decode bX11_init 64 = .ok (.aload_n 0, 1) := by decide +kernel
theorem dX11_init_65 : decode bX11_init 65 = .ok (.bipush 35, 2) := by decide +kernel
theorem dX11_init_67 : decode bX11_init 67 = .ok (.newarray .int, 2) := by decide +kernel
theorem dX11_init_69 : decode bX11_init 69 = .ok (.putfield 37, 3) := by decide +kernel
theorem dX11_init_72 : decode bX11_init 72 = .ok (.aload_n 0, 1) := by decide +kernel
theorem dX11_init_73 : decode bX11_init 73 = .ok (.bipush 120, 2) := by decide +kernel
theorem dX11_init_75 : decode bX11_init 75 = .ok (.newarray .int, 2) := by decide +kernel
theorem dX11_init_77 : decode bX11_init 77 = .ok (.putfield 40, 3) := by decide +kernel
theorem dX11_init_80 : decode bX11_init 80 = .ok (.aload_n 0, 1) := by decide +kernel
theorem dX11_init_81 : decode bX11_init 81 = .ok (.sipush 600, 3) := by decide +kernel
theorem dX11_init_84 : decode bX11_init 84 = .ok (.newarray .int, 2) := by decide +kernel
theorem dX11_init_86 : decode bX11_init 86 = .ok (.putfield 43, 3) := by decide +kernel
theorem dX11_init_89 : decode bX11_init 89 = .ok (.aload_n 0, 1) := by decide +kernel
theorem dX11_init_90 : decode bX11_init 90 = .ok (.iconst 3, 1) := by decide +kernel
theorem dX11_init_91 : decode bX11_init 91 = .ok (.newarray .boolean, 2) := by decide +kernel
theorem dX11_init_93 : decode bX11_init 93 = .ok (.putfield 46, 3) := by decide +kernel
theorem dX11_init_96 : decode bX11_init 96 = .ok (.aload_n 0, 1) := by decide +kernel
theorem dX11_init_97 : decode bX11_init 97 = .ok (.bipush 7, 2) := by decide +kernel
theorem dX11_init_99 : decode bX11_init 99 = .ok (.newarray .int, 2) := by decide +kernel
theorem dX11_init_101 : decode bX11_init 101 = .ok (.putfield 50, 3) := by decide +kernel
theorem dX11_init_104 : decode bX11_init 104 = .ok (.aload_n 0, 1) := by decide +kernel
theorem dX11_init_105 : decode bX11_init 105 = .ok (.bipush 6, 2) := by decide +kernel
theorem dX11_init_107 : decode bX11_init 107 = .ok (.newarray .int, 2) := by decide +kernel
theorem dX11_init_109 : decode bX11_init 109 = .ok (.putfield 53, 3) := by decide +kernel
theorem dX11_init_112 : decode bX11_init 112 = .ok (.aload_n 0, 1) := by decide +kernel
theorem dX11_init_113 : decode bX11_init 113 = .ok (.bipush 6, 2) := by decide +kernel
theorem dX11_init_115 : decode bX11_init 115 = .ok (.newarray .int, 2) := by decide +kernel
theorem dX11_init_117 : decode bX11_init 117 = .ok (.putfield 56, 3) := by decide +kernel
theorem dX11_init_120 : decode bX11_init 120 = .ok (.aload_n 0, 1) := by decide +kernel
theorem dX11_init_121 : decode bX11_init 121 = .ok (.bipush 90, 2) := by decide +kernel
theorem dX11_init_123 : decode bX11_init 123 = .ok (.newarray .int, 2) := by decide +kernel
theorem dX11_init_125 : decode bX11_init 125 = .ok (.putfield 59, 3) := by decide +kernel
theorem dX11_init_128 : decode bX11_init 128 = .ok (.aload_n 0, 1) := by decide +kernel
theorem dX11_init_129 : decode bX11_init 129 = .ok (.bipush 90, 2) := by decide +kernel
theorem dX11_init_131 : decode bX11_init 131 = .ok (.newarray .int, 2) := by decide +kernel
theorem dX11_init_133 : decode bX11_init 133 = .ok (.putfield 62, 3) := by decide +kernel
theorem dX11_init_136 : decode bX11_init 136 = .ok (.aload_n 0, 1) := by decide +kernel
theorem dX11_init_137 : decode bX11_init 137 = .ok (.bipush 6, 2) := by decide +kernel
theorem dX11_init_139 : decode bX11_init 139 = .ok (.newarray .int, 2) := by decide +kernel
theorem dX11_init_141 : decode bX11_init 141 = .ok (.putfield 65, 3) := by decide +kernel
theorem dX11_init_144 : decode bX11_init 144 = .ok (.aload_n 0, 1) := by decide +kernel
theorem dX11_init_145 : decode bX11_init 145 = .ok (.bipush 6, 2) := by decide +kernel
theorem dX11_init_147 : decode bX11_init 147 = .ok (.newarray .int, 2) := by decide +kernel
theorem dX11_init_149 : decode bX11_init 149 = .ok (.putfield 68, 3) := by decide +kernel
theorem dX11_init_152 : decode bX11_init 152 = .ok (.aload_n 0, 1) := by decide +kernel
theorem dX11_init_153 : decode bX11_init 153 = .ok (.bipush 6, 2) := by decide +kernel
theorem dX11_init_155 : decode bX11_init 155 = .ok (.newarray .int, 2) := by decide +kernel
theorem dX11_init_157 : decode bX11_init 157 = .ok (.putfield 71, 3) := by decide +kernel
theorem dX11_init_160 : decode bX11_init 160 = .ok (.aload_n 0, 1) := by decide +kernel
theorem dX11_init_161 : decode bX11_init 161 = .ok (.bipush 6, 2) := by decide +kernel
theorem dX11_init_163 : decode bX11_init 163 = .ok (.newarray .int, 2) := by decide +kernel
theorem dX11_init_165 : decode bX11_init 165 = .ok (.putfield 74, 3) := by decide +kernel
theorem dX11_init_168 : decode bX11_init 168 = .ok (.iconst 0, 1) := by decide +kernel
theorem dX11_init_169 : decode bX11_init 169 = .ok (.istore_n 1, 1) := by decide +kernel
theorem dX11_init_170 : decode bX11_init 170 = .ok (.iload_n 1, 1) := by decide +kernel
theorem dX11_init_171 : decode bX11_init 171 = .ok (.iconst 4, 1) := by decide +kernel
theorem dX11_init_172 : decode bX11_init 172 = .ok (.if_icmp .ge 16, 3) := by decide +kernel
theorem dX11_init_175 : decode bX11_init 175 = .ok (.aload_n 0, 1) := by decide +kernel
theorem dX11_init_176 : decode bX11_init 176 = .ok (.getfield 7, 3) := by decide +kernel
theorem dX11_init_179 : decode bX11_init 179 = .ok (.iload_n 1, 1) := by decide +kernel
theorem dX11_init_180 : decode bX11_init 180 = .ok (.iconst (-1), 1) := by decide +kernel
theorem dX11_init_181 : decode bX11_init 181 = .ok (.iastore, 1) := by decide +kernel
theorem dX11_init_182 : decode bX11_init 182 = .ok (.iinc 1 1, 3) := by decide +kernel
theorem dX11_init_185 : decode bX11_init 185 = .ok (.goto (-15), 3) := by decide +kernel
theorem dX11_init_188 : decode bX11_init 188 = .ok (.return_, 1) := by decide +kernel
theorem dX11_in_0 : decode bX11_in 0 = .ok (.lload_n 0, 1) := by decide +kernel
theorem dX11_in_1 : decode bX11_in 1 = .ok (.lload_n 2, 1) := by decide +kernel
theorem dX11_in_2 : decode bX11_in 2 = .ok (.lcmp, 1) := by decide +kernel
theorem dX11_in_3 : decode bX11_in 3 = .ok (.ifCond .lt 14, 3) := by decide +kernel
theorem dX11_in_6 : decode bX11_in 6 = .ok (.lload_n 0, 1) := by decide +kernel
theorem dX11_in_7 : decode bX11_in 7 = .ok (.lload 4, 2) := by decide +kernel
theorem dX11_in_9 : decode bX11_in 9 = .ok (.lcmp, 1) := by decide +kernel
theorem dX11_in_10 : decode bX11_in 10 = .ok (.ifCond .gt 7, 3) := by decide +kernel
theorem dX11_in_13 : decode bX11_in 13 = .ok (.iconst 1, 1) := by decide +kernel
theorem dX11_in_14 : decode bX11_in 14 = .ok (.goto 4, 3) := by decide +kernel
theorem dX11_in_17 : decode bX11_in 17 = .ok (.iconst 0, 1) := by decide +kernel
theorem dX11_in_18 : decode bX11_in 18 = .ok (.ireturn, 1) := by decide +kernel
theorem dX11_isSlot_0 : decode bX11_isSlot 0 = .ok (.iload_n 0, 1) := by decide +kernel
theorem dX11_isSlot_1 : decode bX11_isSlot 1 = .ok (.i2l, 1) := by decide +kernel
theorem dX11_isSlot_2 : decode bX11_isSlot 2 = .ok (.lconst 0, 1) := by decide +kernel
theorem dX11_isSlot_3 : decode bX11_isSlot 3 = .ok (.ldc2_w 80, 3) := by decide +kernel
theorem dX11_isSlot_6 : decode bX11_isSlot 6 = .ok (.invokestatic 82, 3) := by decide +kernel
theorem dX11_isSlot_9 : decode bX11_isSlot 9 = .ok (.ireturn, 1) := by decide +kernel
theorem dX11_row_0 : decode bX11_row 0 = .ok (.aload_n 0, 1) := by decide +kernel
theorem dX11_row_1 : decode bX11_row 1 = .ok (.iconst 0, 1) := by decide +kernel
theorem dX11_row_2 : decode bX11_row 2 = .ok (.putfield 77, 3) := by decide +kernel
theorem dX11_row_5 : decode bX11_row 5 = .ok (.iload_n 1, 1) := by decide +kernel
theorem dX11_row_6 : decode bX11_row 6 = .ok (.invokestatic 86, 3) := by decide +kernel
theorem dX11_row_9 : decode bX11_row 9 = .ok (.ifCond .eq 21, 3) := by decide +kernel
theorem dX11_row_12 : decode bX11_row 12 = .ok (.iload_n 2, 1) := by decide +kernel
theorem dX11_row_13 : decode bX11_row 13 = .ok (.i2l, 1) := by decide +kernel
theorem dX11_row_14 : decode bX11_row 14 = .ok (.lconst 0, 1) := by decide +kernel
theorem dX11_row_15 : decode bX11_row 15 = .ok (.ldc2_w 80, 3) := by decide +kernel
theorem dX11_row_18 : decode bX11_row 18 = .ok (.invokestatic 82, 3) := by decide +kernel
theorem dX11_row_21 : decode bX11_row 21 = .ok (.ifCond .eq 9, 3) := by decide +kernel
theorem dX11_row_24 : decode bX11_row 24 = .ok (.iload_n 3, 1) := by decide +kernel
theorem dX11_row_25 : decode bX11_row 25 = .ok (.bipush 60, 2) := by decide +kernel
theorem dX11_row_27 : decode bX11_row 27 = .ok (.if_icmp .le 6, 3) := by decide +kernel
theorem dX11_row_30 : decode bX11_row 30 = .ok (.bipush (-2), 2) := by decide +kernel
theorem dX11_row_32 : decode bX11_row 32 = .ok (.ireturn, 1) := by decide +kernel
theorem dX11_row_33 : decode bX11_row 33 = .ok (.iload_n 3, 1) := by decide +kernel
theorem dX11_row_34 : decode bX11_row 34 = .ok (.ifCond .ge 6, 3) := by decide +kernel
theorem dX11_row_37 : decode bX11_row 37 = .ok (.bipush (-3), 2) := by decide +kernel
theorem dX11_row_39 : decode bX11_row 39 = .ok (.ireturn, 1) := by decide +kernel
theorem dX11_row_40 : decode bX11_row 40 = .ok (.aload_n 0, 1) := by decide +kernel
theorem dX11_row_41 : decode bX11_row 41 = .ok (.getfield 7, 3) := by decide +kernel
theorem dX11_row_44 : decode bX11_row 44 = .ok (.iload_n 1, 1) := by decide +kernel
theorem dX11_row_45 : decode bX11_row 45 = .ok (.iload_n 2, 1) := by decide +kernel
theorem dX11_row_46 : decode bX11_row 46 = .ok (.iastore, 1) := by decide +kernel
theorem dX11_row_47 : decode bX11_row 47 = .ok (.aload_n 0, 1) := by decide +kernel
theorem dX11_row_48 : decode bX11_row 48 = .ok (.getfield 13, 3) := by decide +kernel
theorem dX11_row_51 : decode bX11_row 51 = .ok (.iload_n 1, 1) := by decide +kernel
theorem dX11_row_52 : decode bX11_row 52 = .ok (.iload_n 3, 1) := by decide +kernel
theorem dX11_row_53 : decode bX11_row 53 = .ok (.iastore, 1) := by decide +kernel
theorem dX11_row_54 : decode bX11_row 54 = .ok (.iconst 0, 1) := by decide +kernel
theorem dX11_row_55 : decode bX11_row 55 = .ok (.istore 4, 2) := by decide +kernel
theorem dX11_row_57 : decode bX11_row 57 = .ok (.iload 4, 2) := by decide +kernel
theorem dX11_row_59 : decode bX11_row 59 = .ok (.iload_n 3, 1) := by decide +kernel
theorem dX11_row_60 : decode bX11_row 60 = .ok (.if_icmp .ge 22, 3) := by decide +kernel
theorem dX11_row_63 : decode bX11_row 63 = .ok (.aload_n 0, 1) := by decide +kernel
theorem dX11_row_64 : decode bX11_row 64 = .ok (.getfield 16, 3) := by decide +kernel
theorem dX11_row_67 : decode bX11_row 67 = .ok (.bipush 60, 2) := by decide +kernel
theorem dX11_row_69 : decode bX11_row 69 = .ok (.iload_n 1, 1) := by decide +kernel
theorem dX11_row_70 : decode bX11_row 70 = .ok (.imul, 1) := by decide +kernel
theorem dX11_row_71 : decode bX11_row 71 = .ok (.iload 4, 2) := by decide +kernel
theorem dX11_row_73 : decode bX11_row 73 = .ok (.iadd, 1) := by decide +kernel
theorem dX11_row_74 : decode bX11_row 74 = .ok (.lconst 0, 1) := by decide +kernel
theorem dX11_row_75 : decode bX11_row 75 = .ok (.lastore, 1) := by decide +kernel
theorem dX11_row_76 : decode bX11_row 76 = .ok (.iinc 4 1, 3) := by decide +kernel
theorem dX11_row_79 : decode bX11_row 79 = .ok (.goto (-22), 3) := by decide +kernel
theorem dX11_row_82 : decode bX11_row 82 = .ok (.iconst 0, 1) := by decide +kernel
theorem dX11_row_83 : decode bX11_row 83 = .ok (.ireturn, 1) := by decide +kernel
theorem dX11_cut_0 : decode bX11_cut 0 = .ok (.iload_n 2, 1) := by decide +kernel
theorem dX11_cut_1 : decode bX11_cut 1 = .ok (.ifCond .ne 10, 3) := by decide +kernel
theorem dX11_cut_4 : decode bX11_cut 4 = .ok (.lload_n 0, 1) := by decide +kernel
theorem dX11_cut_5 : decode bX11_cut 5 = .ok (.l2i, 1) := by decide +kernel
theorem dX11_cut_6 : decode bX11_cut 6 = .ok (.i2b, 1) := by decide +kernel
theorem dX11_cut_7 : decode bX11_cut 7 = .ok (.i2l, 1) := by decide +kernel
theorem dX11_cut_8 : decode bX11_cut 8 = .ok (.goto 27, 3) := by decide +kernel
theorem dX11_cut_11 : decode bX11_cut 11 = .ok (.iload_n 2, 1) := by decide +kernel
theorem dX11_cut_12 : decode bX11_cut 12 = .ok (.iconst 1, 1) := by decide +kernel
theorem dX11_cut_13 : decode bX11_cut 13 = .ok (.if_icmp .ne 10, 3) := by decide +kernel
theorem dX11_cut_16 : decode bX11_cut 16 = .ok (.lload_n 0, 1) := by decide +kernel
theorem dX11_cut_17 : decode bX11_cut 17 = .ok (.l2i, 1) := by decide +kernel
theorem dX11_cut_18 : decode bX11_cut 18 = .ok (.i2s, 1) := by decide +kernel
theorem dX11_cut_19 : decode bX11_cut 19 = .ok (.i2l, 1) := by decide +kernel
theorem dX11_cut_20 : decode bX11_cut 20 = .ok (.goto 15, 3) := by decide +kernel
theorem dX11_cut_23 : decode bX11_cut 23 = .ok (.iload_n 2, 1) := by decide +kernel
theorem dX11_cut_24 : decode bX11_cut 24 = .ok (.iconst 2, 1) := by decide +kernel
theorem dX11_cut_25 : decode bX11_cut 25 = .ok (.if_icmp .ne 9, 3) := by decide +kernel
theorem dX11_cut_28 : decode bX11_cut 28 = .ok (.lload_n 0, 1) := by decide +kernel
theorem dX11_cut_29 : decode bX11_cut 29 = .ok (.l2i, 1) := by decide +kernel
theorem dX11_cut_30 : decode bX11_cut 30 = .ok (.i2l, 1) := by decide +kernel
theorem dX11_cut_31 : decode bX11_cut 31 = .ok (.goto 4, 3) := by decide +kernel
theorem dX11_cut_34 : decode bX11_cut 34 = .ok (.lload_n 0, 1) := by decide +kernel
theorem dX11_cut_35 : decode bX11_cut 35 = .ok (.lreturn, 1) := by decide +kernel
theorem dX11_write_0 : decode bX11_write 0 = .ok (.aload_n 0, 1) := by decide +kernel
theorem dX11_write_1 : decode bX11_write 1 = .ok (.iconst 0, 1) := by decide +kernel
theorem dX11_write_2 : decode bX11_write 2 = .ok (.putfield 77, 3) := by decide +kernel
theorem dX11_write_5 : decode bX11_write 5 = .ok (.iload_n 1, 1) := by decide +kernel
theorem dX11_write_6 : decode bX11_write 6 = .ok (.invokestatic 86, 3) := by decide +kernel
theorem dX11_write_9 : decode bX11_write 9 = .ok (.ifCond .ne 6, 3) := by decide +kernel
theorem dX11_write_12 : decode bX11_write 12 = .ok (.bipush (-2), 2) := by decide +kernel
theorem dX11_write_14 : decode bX11_write 14 = .ok (.ireturn, 1) := by decide +kernel
theorem dX11_write_15 : decode bX11_write 15 = .ok (.aload_n 0, 1) := by decide +kernel
theorem dX11_write_16 : decode bX11_write 16 = .ok (.getfield 7, 3) := by decide +kernel
theorem dX11_write_19 : decode bX11_write 19 = .ok (.iload_n 1, 1) := by decide +kernel
theorem dX11_write_20 : decode bX11_write 20 = .ok (.iaload, 1) := by decide +kernel
theorem dX11_write_21 : decode bX11_write 21 = .ok (.iconst (-1), 1) := by decide +kernel
theorem dX11_write_22 : decode bX11_write 22 = .ok (.if_icmp .ne 6, 3) := by decide +kernel
theorem dX11_write_25 : decode bX11_write 25 = .ok (.bipush (-6), 2) := by decide +kernel
theorem dX11_write_27 : decode bX11_write 27 = .ok (.ireturn, 1) := by decide +kernel
theorem dX11_write_28 : decode bX11_write 28 = .ok (.iload_n 2, 1) := by decide +kernel
theorem dX11_write_29 : decode bX11_write 29 = .ok (.i2l, 1) := by decide +kernel
theorem dX11_write_30 : decode bX11_write 30 = .ok (.lconst 0, 1) := by decide +kernel
theorem dX11_write_31 : decode bX11_write 31 = .ok (.aload_n 0, 1) := by decide +kernel
theorem dX11_write_32 : decode bX11_write 32 = .ok (.getfield 13, 3) := by decide +kernel
theorem dX11_write_35 : decode bX11_write 35 = .ok (.iload_n 1, 1) := by decide +kernel
theorem dX11_write_36 : decode bX11_write 36 = .ok (.iaload, 1) := by decide +kernel
theorem dX11_write_37 : decode bX11_write 37 = .ok (.iconst 1, 1) := by decide +kernel
theorem dX11_write_38 : decode bX11_write 38 = .ok (.isub, 1) := by decide +kernel
theorem dX11_write_39 : decode bX11_write 39 = .ok (.i2l, 1) := by decide +kernel
theorem dX11_write_40 : decode bX11_write 40 = .ok (.invokestatic 82, 3) := by decide +kernel
theorem dX11_write_43 : decode bX11_write 43 = .ok (.ifCond .ne 6, 3) := by decide +kernel
theorem dX11_write_46 : decode bX11_write 46 = .ok (.bipush (-7), 2) := by decide +kernel
theorem dX11_write_48 : decode bX11_write 48 = .ok (.ireturn, 1) := by decide +kernel
theorem dX11_write_49 : decode bX11_write 49 = .ok (.aload_n 0, 1) := by decide +kernel
theorem dX11_write_50 : decode bX11_write 50 = .ok (.getfield 16, 3) := by decide +kernel
theorem dX11_write_53 : decode bX11_write 53 = .ok (.bipush 60, 2) := by decide +kernel
theorem dX11_write_55 : decode bX11_write 55 = .ok (.iload_n 1, 1) := by decide +kernel
theorem dX11_write_56 : decode bX11_write 56 = .ok (.imul, 1) := by decide +kernel
theorem dX11_write_57 : decode bX11_write 57 = .ok (.iload_n 2, 1) := by decide +kernel
theorem dX11_write_58 : decode bX11_write 58 = .ok (.iadd, 1) := by decide +kernel
theorem dX11_write_59 : decode bX11_write 59 = .ok (.lload_n 3, 1) := by decide +kernel
theorem dX11_write_60 : decode bX11_write 60 = .ok (.aload_n 0, 1) := by decide +kernel
theorem dX11_write_61 : decode bX11_write 61 = .ok (.getfield 7, 3) := by decide +kernel
theorem dX11_write_64 : decode bX11_write 64 = .ok (.iload_n 1, 1) := by decide +kernel
theorem dX11_write_65 : decode bX11_write 65 = .ok (.iaload, 1) := by decide +kernel
theorem dX11_write_66 : decode bX11_write 66 = .ok (.invokestatic 90, 3) := by decide +kernel
theorem dX11_write_69 : decode bX11_write 69 = .ok (.lastore, 1) := by decide +kernel
theorem dX11_write_70 : decode bX11_write 70 = .ok (.iconst 0, 1) := by decide +kernel
theorem dX11_write_71 : decode bX11_write 71 = .ok (.ireturn, 1) := by decide +kernel
theorem dX11_paste_0 : decode bX11_paste 0 = .ok (.aload_n 0, 1) := by decide +kernel
theorem dX11_paste_1 : decode bX11_paste 1 = .ok (.iconst 0, 1) := by decide +kernel
theorem dX11_paste_2 : decode bX11_paste 2 = .ok (.putfield 77, 3) := by decide +kernel
theorem dX11_paste_5 : decode bX11_paste 5 = .ok (.iload_n 1, 1) := by decide +kernel
theorem dX11_paste_6 : decode bX11_paste 6 = .ok (.invokestatic 86, 3) := by decide +kernel
theorem dX11_paste_9 : decode bX11_paste 9 = .ok (.ifCond .eq 10, 3) := by decide +kernel
theorem dX11_paste_12 : decode bX11_paste 12 = .ok (.iload_n 3, 1) := by decide +kernel
theorem dX11_paste_13 : decode bX11_paste 13 = .ok (.invokestatic 86, 3) := by decide +kernel
theorem dX11_paste_16 : decode bX11_paste 16 = .ok (.ifCond .ne 6, 3) := by decide +kernel
theorem dX11_paste_19 : decode bX11_paste 19 = .ok (.bipush (-2), 2) := by decide +kernel
theorem dX11_paste_21 : decode bX11_paste 21 = .ok (.ireturn, 1) := by decide +kernel
theorem dX11_paste_22 : decode bX11_paste 22 = .ok (.aload_n 0, 1) := by decide +kernel
theorem dX11_paste_23 : decode bX11_paste 23 = .ok (.getfield 7, 3) := by decide +kernel
theorem dX11_paste_26 : decode bX11_paste 26 = .ok (.iload_n 1, 1) := by decide +kernel
theorem dX11_paste_27 : decode bX11_paste 27 = .ok (.iaload, 1) := by decide +kernel
theorem dX11_paste_28 : decode bX11_paste 28 = .ok (.iconst (-1), 1) := by decide +kernel
theorem dX11_paste_29 : decode bX11_paste 29 = .ok (.if_icmp .eq 13, 3) := by decide +kernel
theorem dX11_paste_32 : decode bX11_paste 32 = .ok (.aload_n 0, 1) := by decide +kernel
theorem dX11_paste_33 : decode bX11_paste 33 = .ok (.getfield 7, 3) := by decide +kernel
theorem dX11_paste_36 : decode bX11_paste 36 = .ok (.iload_n 3, 1) := by decide +kernel
theorem dX11_paste_37 : decode bX11_paste 37 = .ok (.iaload, 1) := by decide +kernel
theorem dX11_paste_38 : decode bX11_paste 38 = .ok (.iconst (-1), 1) := by decide +kernel
theorem dX11_paste_39 : decode bX11_paste 39 = .ok (.if_icmp .ne 6, 3) := by decide +kernel
theorem dX11_paste_42 : decode bX11_paste 42 = .ok (.bipush (-6), 2) := by decide +kernel
theorem dX11_paste_44 : decode bX11_paste 44 = .ok (.ireturn, 1) := by decide +kernel
theorem dX11_paste_45 : decode bX11_paste 45 = .ok (.aload_n 0, 1) := by decide +kernel
theorem dX11_paste_46 : decode bX11_paste 46 = .ok (.getfield 7, 3) := by decide +kernel
theorem dX11_paste_49 : decode bX11_paste 49 = .ok (.iload_n 1, 1) := by decide +kernel
theorem dX11_paste_50 : decode bX11_paste 50 = .ok (.iaload, 1) := by decide +kernel
theorem dX11_paste_51 : decode bX11_paste 51 = .ok (.aload_n 0, 1) := by decide +kernel
theorem dX11_paste_52 : decode bX11_paste 52 = .ok (.getfield 7, 3) := by decide +kernel
theorem dX11_paste_55 : decode bX11_paste 55 = .ok (.iload_n 3, 1) := by decide +kernel
theorem dX11_paste_56 : decode bX11_paste 56 = .ok (.iaload, 1) := by decide +kernel
theorem dX11_paste_57 : decode bX11_paste 57 = .ok (.if_icmp .eq 6, 3) := by decide +kernel
theorem dX11_paste_60 : decode bX11_paste 60 = .ok (.bipush (-8), 2) := by decide +kernel
theorem dX11_paste_62 : decode bX11_paste 62 = .ok (.ireturn, 1) := by decide +kernel
theorem dX11_paste_63 : decode bX11_paste 63 = .ok (.iload_n 2, 1) := by decide +kernel
theorem dX11_paste_64 : decode bX11_paste 64 = .ok (.ifCond .lt 48, 3) := by decide +kernel
theorem dX11_paste_67 : decode bX11_paste 67 = .ok (.iload 4, 2) := by decide +kernel
theorem dX11_paste_69 : decode bX11_paste 69 = .ok (.ifCond .lt 43, 3) := by decide +kernel
theorem dX11_paste_72 : decode bX11_paste 72 = .ok (.iload 5, 2) := by decide +kernel
theorem dX11_paste_74 : decode bX11_paste 74 = .ok (.ifCond .lt 38, 3) := by decide +kernel
theorem dX11_paste_77 : decode bX11_paste 77 = .ok (.iload_n 2, 1) := by decide +kernel
theorem dX11_paste_78 : decode bX11_paste 78 = .ok (.i2l, 1) := by decide +kernel
theorem dX11_paste_79 : decode bX11_paste 79 = .ok (.iload 5, 2) := by decide +kernel
theorem dX11_paste_81 : decode bX11_paste 81 = .ok (.i2l, 1) := by decide +kernel
theorem dX11_paste_82 : decode bX11_paste 82 = .ok (.ladd, 1) := by decide +kernel
theorem dX11_paste_83 : decode bX11_paste 83 = .ok (.aload_n 0, 1) := by decide +kernel
theorem dX11_paste_84 : decode bX11_paste 84 = .ok (.getfield 13, 3) := by decide +kernel
theorem dX11_paste_87 : decode bX11_paste 87 = .ok (.iload_n 1, 1) := by decide +kernel
theorem dX11_paste_88 : decode bX11_paste 88 = .ok (.iaload, 1) := by decide +kernel
theorem dX11_paste_89 : decode bX11_paste 89 = .ok (.i2l, 1) := by decide +kernel
theorem dX11_paste_90 : decode bX11_paste 90 = .ok (.lcmp, 1) := by decide +kernel
theorem dX11_paste_91 : decode bX11_paste 91 = .ok (.ifCond .gt 21, 3) := by decide +kernel
theorem dX11_paste_94 : decode bX11_paste 94 = .ok (.iload 4, 2) := by decide +kernel
theorem dX11_paste_96 : decode bX11_paste 96 = .ok (.i2l, 1) := by decide +kernel
theorem dX11_paste_97 : decode bX11_paste 97 = .ok (.iload 5, 2) := by decide +kernel
theorem dX11_paste_99 : decode bX11_paste 99 = .ok (.i2l, 1) := by decide +kernel
theorem dX11_paste_100 : decode bX11_paste 100 = .ok (.ladd, 1) := by decide +kernel
theorem dX11_paste_101 : decode bX11_paste 101 = .ok (.aload_n 0, 1) := by decide +kernel
theorem dX11_paste_102 : decode bX11_paste 102 = .ok (.getfield 13, 3) := by decide +kernel
theorem dX11_paste_105 : decode bX11_paste 105 = .ok (.iload_n 3, 1) := by decide +kernel
theorem dX11_paste_106 : decode bX11_paste 106 = .ok (.iaload, 1) := by decide +kernel
theorem dX11_paste_107 : decode bX11_paste 107 = .ok (.i2l, 1) := by decide +kernel
theorem dX11_paste_108 : decode bX11_paste 108 = .ok (.lcmp, 1) := by decide +kernel
theorem dX11_paste_109 : decode bX11_paste 109 = .ok (.ifCond .le 6, 3) := by decide +kernel
theorem dX11_paste_112 : decode bX11_paste 112 = .ok (.bipush (-7), 2) := by decide +kernel
theorem dX11_paste_114 : decode bX11_paste 114 = .ok (.ireturn, 1) := by decide +kernel
theorem dX11_paste_115 : decode bX11_paste 115 = .ok (.iconst 0, 1) := by decide +kernel
theorem dX11_paste_116 : decode bX11_paste 116 = .ok (.istore 6, 2) := by decide +kernel
theorem dX11_paste_118 : decode bX11_paste 118 = .ok (.iload 6, 2) := by decide +kernel
theorem dX11_paste_120 : decode bX11_paste 120 = .ok (.iload 5, 2) := by decide +kernel
theorem dX11_paste_122 : decode bX11_paste 122 = .ok (.if_icmp .ge 30, 3) := by decide +kernel
theorem dX11_paste_125 : decode bX11_paste 125 = .ok (.aload_n 0, 1) := by decide +kernel
theorem dX11_paste_126 : decode bX11_paste 126 = .ok (.getfield 20, 3) := by decide +kernel
theorem dX11_paste_129 : decode bX11_paste 129 = .ok (.iload 6, 2) := by decide +kernel
theorem dX11_paste_131 : decode bX11_paste 131 = .ok (.aload_n 0, 1) := by decide +kernel
theorem dX11_paste_132 : decode bX11_paste 132 = .ok (.getfield 16, 3) := by decide +kernel
theorem dX11_paste_135 : decode bX11_paste 135 = .ok (.bipush 60, 2) := by decide +kernel
theorem dX11_paste_137 : decode bX11_paste 137 = .ok (.iload_n 1, 1) := by decide +kernel
theorem dX11_paste_138 : decode bX11_paste 138 = .ok (.imul, 1) := by decide +kernel
theorem dX11_paste_139 : decode bX11_paste 139 = .ok (.iload_n 2, 1) := by decide +kernel
theorem dX11_paste_140 : decode bX11_paste 140 = .ok (.iadd, 1) := by decide +kernel
theorem dX11_paste_141 : decode bX11_paste 141 = .ok (.iload 6, 2) := by decide +kernel
theorem dX11_paste_143 : decode bX11_paste 143 = .ok (.iadd, 1) := by decide +kernel
theorem dX11_paste_144 : decode bX11_paste 144 = .ok (.laload, 1) := by decide +kernel
theorem dX11_paste_145 : decode bX11_paste 145 = .ok (.lastore, 1) := by decide +kernel
theorem dX11_paste_146 : decode bX11_paste 146 = .ok (.iinc 6 1, 3) := by decide +kernel
theorem dX11_paste_149 : decode bX11_paste 149 = .ok (.goto (-31), 3) := by decide +kernel
theorem dX11_paste_152 : decode bX11_paste 152 = .ok (.iconst 0, 1) := by decide +kernel
theorem dX11_paste_153 : decode bX11_paste 153 = .ok (.istore 6, 2) := by decide +kernel
theorem dX11_paste_155 : decode bX11_paste 155 = .ok (.iload 6, 2) := by decide +kernel
theorem dX11_paste_157 : decode bX11_paste 157 = .ok (.iload 5, 2) := by decide +kernel
theorem dX11_paste_159 : decode bX11_paste 159 = .ok (.if_icmp .ge 31, 3) := by decide +kernel
theorem dX11_paste_162 : decode bX11_paste 162 = .ok (.aload_n 0, 1) := by decide +kernel
theorem dX11_paste_163 : decode bX11_paste 163 = .ok (.getfield 16, 3) := by decide +kernel
theorem dX11_paste_166 : decode bX11_paste 166 = .ok (.bipush 60, 2) := by decide +kernel
theorem dX11_paste_168 : decode bX11_paste 168 = .ok (.iload_n 3, 1) := by decide +kernel
theorem dX11_paste_169 : decode bX11_paste 169 = .ok (.imul, 1) := by decide +kernel
theorem dX11_paste_170 : decode bX11_paste 170 = .ok (.iload 4, 2) := by decide +kernel
theorem dX11_paste_172 : decode bX11_paste 172 = .ok (.iadd, 1) := by decide +kernel
theorem dX11_paste_173 : decode bX11_paste 173 = .ok (.iload 6, 2) := by decide +kernel
theorem dX11_paste_175 : decode bX11_paste 175 = .ok (.iadd, 1) := by decide +kernel
theorem dX11_paste_176 : decode bX11_paste 176 = .ok (.aload_n 0, 1) := by decide +kernel
theorem dX11_paste_177 : decode bX11_paste 177 = .ok (.getfield 20, 3) := by decide +kernel
theorem dX11_paste_180 : decode bX11_paste 180 = .ok (.iload 6, 2) := by decide +kernel
theorem dX11_paste_182 : decode bX11_paste 182 = .ok (.laload, 1) := by decide +kernel
theorem dX11_paste_183 : decode bX11_paste 183 = .ok (.lastore, 1) := by decide +kernel
theorem dX11_paste_184 : decode bX11_paste 184 = .ok (.iinc 6 1, 3) := by decide +kernel
theorem dX11_paste_187 : decode bX11_paste 187 = .ok (.goto (-32), 3) := by decide +kernel
theorem dX11_paste_190 : decode bX11_paste 190 = .ok (.iconst 0, 1) := by decide +kernel
theorem dX11_paste_191 : decode bX11_paste 191 = .ok (.ireturn, 1) := by decide +kernel
theorem dX11_feed_0 : decode bX11_feed 0 = .ok (.aload_n 0, 1) := by decide +kernel
theorem dX11_feed_1 : decode bX11_feed 1 = .ok (.iconst 0, 1) := by decide +kernel
theorem dX11_feed_2 : decode bX11_feed 2 = .ok (.putfield 77, 3) := by decide +kernel
theorem dX11_feed_5 : decode bX11_feed 5 = .ok (.aload_n 0, 1) := by decide +kernel
theorem dX11_feed_6 : decode bX11_feed 6 = .ok (.getfield 94, 3) := by decide +kernel
theorem dX11_feed_9 : decode bX11_feed 9 = .ok (.bipush 20, 2) := by decide +kernel
theorem dX11_feed_11 : decode bX11_feed 11 = .ok (.iadd, 1) := by decide +kernel
theorem dX11_feed_12 : decode bX11_feed 12 = .ok (.sipush 600, 3) := by decide +kernel
theorem dX11_feed_15 : decode bX11_feed 15 = .ok (.if_icmp .le 5, 3) := by decide +kernel
theorem dX11_feed_18 : decode bX11_feed 18 = .ok (.iconst (-1), 1) := by decide +kernel
theorem dX11_feed_19 : decode bX11_feed 19 = .ok (.ireturn, 1) := by decide +kernel
theorem dX11_feed_20 : decode bX11_feed 20 = .ok (.aload_n 0, 1) := by decide +kernel
theorem dX11_feed_21 : decode bX11_feed 21 = .ok (.iload_n 1, 1) := by decide +kernel
theorem dX11_feed_22 : decode bX11_feed 22 = .ok (.invokevirtual 97, 3) := by decide +kernel
theorem dX11_feed_25 : decode bX11_feed 25 = .ok (.aload_n 0, 1) := by decide +kernel
theorem dX11_feed_26 : decode bX11_feed 26 = .ok (.iload_n 2, 1) := by decide +kernel
theorem dX11_feed_27 : decode bX11_feed 27 = .ok (.invokevirtual 97, 3) := by decide +kernel
theorem dX11_feed_30 : decode bX11_feed 30 = .ok (.aload_n 0, 1) := by decide +kernel
theorem dX11_feed_31 : decode bX11_feed 31 = .ok (.iload_n 3, 1) := by decide +kernel
theorem dX11_feed_32 : decode bX11_feed 32 = .ok (.invokevirtual 97, 3) := by decide +kernel
theorem dX11_feed_35 : decode bX11_feed 35 = .ok (.aload_n 0, 1) := by decide +kernel
theorem dX11_feed_36 : decode bX11_feed 36 = .ok (.iload 4, 2) := by decide +kernel
theorem dX11_feed_38 : decode bX11_feed 38 = .ok (.invokevirtual 97, 3) := by decide +kernel
theorem dX11_feed_41 : decode bX11_feed 41 = .ok (.aload_n 0, 1) := by decide +kernel
theorem dX11_feed_42 : decode bX11_feed 42 = .ok (.iload 5, 2) := by decide +kernel
theorem dX11_feed_44 : decode bX11_feed 44 = .ok (.invokevirtual 97, 3) := by decide +kernel
theorem dX11_feed_47 : decode bX11_feed 47 = .ok (.aload_n 0, 1) := by decide +kernel
theorem dX11_feed_48 : decode bX11_feed 48 = .ok (.getfield 94, 3) := by decide +kernel
theorem dX11_feed_51 : decode bX11_feed 51 = .ok (.ireturn, 1) := by decide +kernel
theorem dX11_four_0 : decode bX11_four 0 = .ok (.bipush 24, 2) := by decide +kernel
theorem dX11_four_2 : decode bX11_four 2 = .ok (.istore_n 2, 1) := by decide +kernel
theorem dX11_four_3 : decode bX11_four 3 = .ok (.iload_n 2, 1) := by decide +kernel
theorem dX11_four_4 : decode bX11_four 4 = .ok (.ifCond .lt 32, 3) := by decide +kernel
theorem dX11_four_7 : decode bX11_four 7 = .ok (.aload_n 0, 1) := by decide +kernel
theorem dX11_four_8 : decode bX11_four 8 = .ok (.getfield 23, 3) := by decide +kernel
theorem dX11_four_11 : decode bX11_four 11 = .ok (.aload_n 0, 1) := by decide +kernel
theorem dX11_four_12 : decode bX11_four 12 = .ok (.getfield 94, 3) := by decide +kernel
theorem dX11_four_15 : decode bX11_four 15 = .ok (.iload_n 1, 1) := by decide +kernel
theorem dX11_four_16 : decode bX11_four 16 = .ok (.iload_n 2, 1) := by decide +kernel
theorem dX11_four_17 : decode bX11_four 17 = .ok (.ishr, 1) := by decide +kernel
theorem dX11_four_18 : decode bX11_four 18 = .ok (.i2b, 1) := by decide +kernel
theorem dX11_four_19 : decode bX11_four 19 = .ok (.bastore, 1) := by decide +kernel
theorem dX11_four_20 : decode bX11_four 20 = .ok (.aload_n 0, 1) := by decide +kernel
theorem dX11_four_21 : decode bX11_four 21 = .ok (.dup, 1) := by decide +kernel
theorem dX11_four_22 : decode bX11_four 22 = .ok (.getfield 94, 3) := by decide +kernel
theorem dX11_four_25 : decode bX11_four 25 = .ok (.iconst 1, 1) := by decide +kernel
theorem dX11_four_26 : decode bX11_four 26 = .ok (.iadd, 1) := by decide +kernel
theorem dX11_four_27 : decode bX11_four 27 = .ok (.putfield 94, 3) := by decide +kernel
theorem dX11_four_30 : decode bX11_four 30 = .ok (.iinc 2 (-8), 3) := by decide +kernel
theorem dX11_four_33 : decode bX11_four 33 = .ok (.goto (-30), 3) := by decide +kernel
theorem dX11_four_36 : decode bX11_four 36 = .ok (.return_, 1) := by decide +kernel
theorem dX11_end_0 : decode bX11_end 0 = .ok (.aload_n 0, 1) := by decide +kernel
theorem dX11_end_1 : decode bX11_end 1 = .ok (.iconst 0, 1) := by decide +kernel
theorem dX11_end_2 : decode bX11_end 2 = .ok (.putfield 77, 3) := by decide +kernel
theorem dX11_end_5 : decode bX11_end 5 = .ok (.iload_n 1, 1) := by decide +kernel
theorem dX11_end_6 : decode bX11_end 6 = .ok (.i2l, 1) := by decide +kernel
theorem dX11_end_7 : decode bX11_end 7 = .ok (.lconst 0, 1) := by decide +kernel
theorem dX11_end_8 : decode bX11_end 8 = .ok (.aload_n 0, 1) := by decide +kernel
theorem dX11_end_9 : decode bX11_end 9 = .ok (.getfield 94, 3) := by decide +kernel
theorem dX11_end_12 : decode bX11_end 12 = .ok (.i2l, 1) := by decide +kernel
theorem dX11_end_13 : decode bX11_end 13 = .ok (.invokestatic 82, 3) := by decide +kernel
theorem dX11_end_16 : decode bX11_end 16 = .ok (.ifCond .ne 5, 3) := by decide +kernel
theorem dX11_end_19 : decode bX11_end 19 = .ok (.iconst (-1), 1) := by decide +kernel
theorem dX11_end_20 : decode bX11_end 20 = .ok (.ireturn, 1) := by decide +kernel
theorem dX11_end_21 : decode bX11_end 21 = .ok (.aload_n 0, 1) := by decide +kernel
theorem dX11_end_22 : decode bX11_end 22 = .ok (.iload_n 1, 1) := by decide +kernel
theorem dX11_end_23 : decode bX11_end 23 = .ok (.putfield 94, 3) := by decide +kernel
theorem dX11_end_26 : decode bX11_end 26 = .ok (.iload_n 1, 1) := by decide +kernel
theorem dX11_end_27 : decode bX11_end 27 = .ok (.ireturn, 1) := by decide +kernel
theorem dX11_isByte_0 : decode bX11_isByte 0 = .ok (.iload_n 1, 1) := by decide +kernel
theorem dX11_isByte_1 : decode bX11_isByte 1 = .ok (.aload_n 0, 1) := by decide +kernel
theorem dX11_isByte_2 : decode bX11_isByte 2 = .ok (.getfield 94, 3) := by decide +kernel
theorem dX11_isByte_5 : decode bX11_isByte 5 = .ok (.if_icmp .ge 27, 3) := by decide +kernel
theorem dX11_isByte_8 : decode bX11_isByte 8 = .ok (.aload_n 0, 1) := by decide +kernel
theorem dX11_isByte_9 : decode bX11_isByte 9 = .ok (.getfield 23, 3) := by decide +kernel
theorem dX11_isByte_12 : decode bX11_isByte 12 = .ok (.iload_n 1, 1) := by decide +kernel
theorem dX11_isByte_13 : decode bX11_isByte 13 = .ok (.baload, 1) := by decide +kernel
theorem dX11_isByte_14 : decode bX11_isByte 14 = .ok (.iload_n 2, 1) := by decide +kernel
theorem dX11_isByte_15 : decode bX11_isByte 15 = .ok (.if_icmp .lt 17, 3) := by decide +kernel
theorem dX11_isByte_18 : decode bX11_isByte 18 = .ok (.aload_n 0, 1) := by decide +kernel
theorem dX11_isByte_19 : decode bX11_isByte 19 = .ok (.getfield 23, 3) := by decide +kernel
theorem dX11_isByte_22 : decode bX11_isByte 22 = .ok (.iload_n 1, 1) := by decide +kernel
theorem dX11_isByte_23 : decode bX11_isByte 23 = .ok (.baload, 1) := by decide +kernel
theorem dX11_isByte_24 : decode bX11_isByte 24 = .ok (.iload_n 3, 1) := by decide +kernel
theorem dX11_isByte_25 : decode bX11_isByte 25 = .ok (.if_icmp .gt 7, 3) := by decide +kernel
theorem dX11_isByte_28 : decode bX11_isByte 28 = .ok (.iconst 1, 1) := by decide +kernel
theorem dX11_isByte_29 : decode bX11_isByte 29 = .ok (.goto 4, 3) := by decide +kernel
theorem dX11_isByte_32 : decode bX11_isByte 32 = .ok (.iconst 0, 1) := by decide +kernel
theorem dX11_isByte_33 : decode bX11_isByte 33 = .ok (.ireturn, 1) := by decide +kernel
theorem dX11_next_0 : decode bX11_next 0 = .ok (.aload_n 0, 1) := by decide +kernel
theorem dX11_next_1 : decode bX11_next 1 = .ok (.aload_n 0, 1) := by decide +kernel
theorem dX11_next_2 : decode bX11_next 2 = .ok (.getfield 101, 3) := by decide +kernel
theorem dX11_next_5 : decode bX11_next 5 = .ok (.bipush 32, 2) := by decide +kernel
theorem dX11_next_7 : decode bX11_next 7 = .ok (.bipush 32, 2) := by decide +kernel
theorem dX11_next_9 : decode bX11_next 9 = .ok (.invokevirtual 104, 3) := by decide +kernel
theorem dX11_next_12 : decode bX11_next 12 = .ok (.ifCond .ne 18, 3) := by decide +kernel
theorem dX11_next_15 : decode bX11_next 15 = .ok (.aload_n 0, 1) := by decide +kernel
theorem dX11_next_16 : decode bX11_next 16 = .ok (.aload_n 0, 1) := by decide +kernel
theorem dX11_next_17 : decode bX11_next 17 = .ok (.getfield 101, 3) := by decide +kernel
theorem dX11_next_20 : decode bX11_next 20 = .ok (.bipush 10, 2) := by decide +kernel
theorem dX11_next_22 : decode bX11_next 22 = .ok (.bipush 10, 2) := by decide +kernel
theorem dX11_next_24 : decode bX11_next 24 = .ok (.invokevirtual 104, 3) := by decide +kernel
theorem dX11_next_27 : decode bX11_next 27 = .ok (.ifCond .eq 16, 3) := by decide +kernel
theorem dX11_next_30 : decode bX11_next 30 = .ok (.aload_n 0, 1) := by decide +kernel
theorem dX11_next_31 : decode bX11_next 31 = .ok (.dup, 1) := by decide +kernel
theorem dX11_next_32 : decode bX11_next 32 = .ok (.getfield 101, 3) := by decide +kernel
theorem dX11_next_35 : decode bX11_next 35 = .ok (.iconst 1, 1) := by decide +kernel
theorem dX11_next_36 : decode bX11_next 36 = .ok (.iadd, 1) := by decide +kernel
theorem dX11_next_37 : decode bX11_next 37 = .ok (.putfield 101, 3) := by decide +kernel
theorem dX11_next_40 : decode bX11_next 40 = .ok (.goto (-40), 3) := by decide +kernel
theorem dX11_next_43 : decode bX11_next 43 = .ok (.aload_n 0, 1) := by decide +kernel
theorem dX11_next_44 : decode bX11_next 44 = .ok (.aload_n 0, 1) := by decide +kernel
theorem dX11_next_45 : decode bX11_next 45 = .ok (.getfield 101, 3) := by decide +kernel
theorem dX11_next_48 : decode bX11_next 48 = .ok (.putfield 108, 3) := by decide +kernel
theorem dX11_next_51 : decode bX11_next 51 = .ok (.aload_n 0, 1) := by decide +kernel
theorem dX11_next_52 : decode bX11_next 52 = .ok (.iconst 0, 1) := by decide +kernel
theorem dX11_next_53 : decode bX11_next 53 = .ok (.putfield 111, 3) := by decide +kernel
theorem dX11_next_56 : decode bX11_next 56 = .ok (.aload_n 0, 1) := by decide +kernel
theorem dX11_next_57 : decode bX11_next 57 = .ok (.lconst 0, 1) := by decide +kernel
theorem dX11_next_58 : decode bX11_next 58 = .ok (.putfield 114, 3) := by decide +kernel
theorem dX11_next_61 : decode bX11_next 61 = .ok (.aload_n 0, 1) := by decide +kernel
theorem dX11_next_62 : decode bX11_next 62 = .ok (.getfield 101, 3) := by decide +kernel
theorem dX11_next_65 : decode bX11_next 65 = .ok (.aload_n 0, 1) := by decide +kernel
theorem dX11_next_66 : decode bX11_next 66 = .ok (.getfield 94, 3) := by decide +kernel
theorem dX11_next_69 : decode bX11_next 69 = .ok (.if_icmp .ne 11, 3) := by decide +kernel
theorem dX11_next_72 : decode bX11_next 72 = .ok (.aload_n 0, 1) := by decide +kernel
theorem dX11_next_73 : decode bX11_next 73 = .ok (.iconst 0, 1) := by decide +kernel
theorem dX11_next_74 : decode bX11_next 74 = .ok (.putfield 118, 3) := by decide +kernel
theorem dX11_next_77 : decode bX11_next 77 = .ok (.goto 230, 3) := by decide +kernel
theorem dX11_next_80 : decode bX11_next 80 = .ok (.aload_n 0, 1) := by decide +kernel
theorem dX11_next_81 : decode bX11_next 81 = .ok (.aload_n 0, 1) := by decide +kernel
theorem dX11_next_82 : decode bX11_next 82 = .ok (.getfield 101, 3) := by decide +kernel
theorem dX11_next_85 : decode bX11_next 85 = .ok (.bipush 97, 2) := by decide +kernel
theorem dX11_next_87 : decode bX11_next 87 = .ok (.bipush 122, 2) := by decide +kernel
theorem dX11_next_89 : decode bX11_next 89 = .ok (.invokevirtual 104, 3) := by decide +kernel
theorem dX11_next_92 : decode bX11_next 92 = .ok (.ifCond .eq 96, 3) := by decide +kernel
theorem dX11_next_95 : decode bX11_next 95 = .ok (.aload_n 0, 1) := by decide +kernel
theorem dX11_next_96 : decode bX11_next 96 = .ok (.iconst 1, 1) := by decide +kernel
theorem dX11_next_97 : decode bX11_next 97 = .ok (.putfield 118, 3) := by decide +kernel
theorem dX11_next_100 : decode bX11_next 100 = .ok (.iconst 0, 1) := by decide +kernel
theorem dX11_next_101 : decode bX11_next 101 = .ok (.istore_n 1, 1) := by decide +kernel
theorem dX11_next_102 : decode bX11_next 102 = .ok (.aload_n 0, 1) := by decide +kernel
theorem dX11_next_103 : decode bX11_next 103 = .ok (.aload_n 0, 1) := by decide +kernel
theorem dX11_next_104 : decode bX11_next 104 = .ok (.getfield 101, 3) := by decide +kernel
theorem dX11_next_107 : decode bX11_next 107 = .ok (.bipush 97, 2) := by decide +kernel
theorem dX11_next_109 : decode bX11_next 109 = .ok (.bipush 122, 2) := by decide +kernel
theorem dX11_next_111 : decode bX11_next 111 = .ok (.invokevirtual 104, 3) := by decide +kernel
theorem dX11_next_114 : decode bX11_next 114 = .ok (.ifCond .eq 71, 3) := by decide +kernel
theorem dX11_next_117 : decode bX11_next 117 = .ok (.aload_n 0, 1) := by decide +kernel
theorem dX11_next_118 : decode bX11_next 118 = .ok (.iload_n 1, 1) := by decide +kernel
theorem dX11_next_119 : decode bX11_next 119 = .ok (.bipush 11, 2) := by decide +kernel
theorem dX11_next_121 : decode bX11_next 121 = .ok (.if_icmp .le 9, 3) := by decide +kernel
theorem dX11_next_124 : decode bX11_next 124 = .ok (.ldc2_w 121, 3) := by decide +kernel
theorem dX11_next_127 : decode bX11_next 127 = .ok (.goto 26, 3) := by decide +kernel
theorem dX11_next_130 : decode bX11_next 130 = .ok (.ldc2_w 123, 3) := by decide +kernel
theorem dX11_next_133 : decode bX11_next 133 = .ok (.aload_n 0, 1) := by decide +kernel
theorem dX11_next_134 : decode bX11_next 134 = .ok (.getfield 114, 3) := by decide +kernel
theorem dX11_next_137 : decode bX11_next 137 = .ok (.lmul, 1) := by decide +kernel
theorem dX11_next_138 : decode bX11_next 138 = .ok (.aload_n 0, 1) := by decide +kernel
theorem dX11_next_139 : decode bX11_next 139 = .ok (.getfield 23, 3) := by decide +kernel
theorem dX11_next_142 : decode bX11_next 142 = .ok (.aload_n 0, 1) := by decide +kernel
theorem dX11_next_143 : decode bX11_next 143 = .ok (.getfield 101, 3) := by decide +kernel
theorem dX11_next_146 : decode bX11_next 146 = .ok (.baload, 1) := by decide +kernel
theorem dX11_next_147 : decode bX11_next 147 = .ok (.i2l, 1) := by decide +kernel
theorem dX11_next_148 : decode bX11_next 148 = .ok (.ladd, 1) := by decide +kernel
theorem dX11_next_149 : decode bX11_next 149 = .ok (.ldc2_w 125, 3) := by decide +kernel
theorem dX11_next_152 : decode bX11_next 152 = .ok (.lsub, 1) := by decide +kernel
theorem dX11_next_153 : decode bX11_next 153 = .ok (.putfield 114, 3) := by decide +kernel
theorem dX11_next_156 : decode bX11_next 156 = .ok (.iload_n 1, 1) := by decide +kernel
theorem dX11_next_157 : decode bX11_next 157 = .ok (.bipush 11, 2) := by decide +kernel
theorem dX11_next_159 : decode bX11_next 159 = .ok (.if_icmp .le 10, 3) := by decide +kernel
theorem dX11_next_162 : decode bX11_next 162 = .ok (.aload_n 0, 1) := by decide +kernel
theorem dX11_next_163 : decode bX11_next 163 = .ok (.ldc2_w 121, 3) := by decide +kernel
theorem dX11_next_166 : decode bX11_next 166 = .ok (.putfield 114, 3) := by decide +kernel
theorem dX11_next_169 : decode bX11_next 169 = .ok (.aload_n 0, 1) := by decide +kernel
theorem dX11_next_170 : decode bX11_next 170 = .ok (.dup, 1) := by decide +kernel
theorem dX11_next_171 : decode bX11_next 171 = .ok (.getfield 101, 3) := by decide +kernel
theorem dX11_next_174 : decode bX11_next 174 = .ok (.iconst 1, 1) := by decide +kernel
theorem dX11_next_175 : decode bX11_next 175 = .ok (.iadd, 1) := by decide +kernel
theorem dX11_next_176 : decode bX11_next 176 = .ok (.putfield 101, 3) := by decide +kernel
theorem dX11_next_179 : decode bX11_next 179 = .ok (.iinc 1 1, 3) := by decide +kernel
theorem dX11_next_182 : decode bX11_next 182 = .ok (.goto (-80), 3) := by decide +kernel
theorem dX11_next_185 : decode bX11_next 185 = .ok (.goto 122, 3) := by decide +kernel
theorem dX11_next_188 : decode bX11_next 188 = .ok (.aload_n 0, 1) := by decide +kernel
theorem dX11_next_189 : decode bX11_next 189 = .ok (.aload_n 0, 1) := by decide +kernel
theorem dX11_next_190 : decode bX11_next 190 = .ok (.getfield 101, 3) := by decide +kernel
theorem dX11_next_193 : decode bX11_next 193 = .ok (.bipush 48, 2) := by decide +kernel
theorem dX11_next_195 : decode bX11_next 195 = .ok (.bipush 57, 2) := by decide +kernel
theorem dX11_next_197 : decode bX11_next 197 = .ok (.invokevirtual 104, 3) := by decide +kernel
theorem dX11_next_200 : decode bX11_next 200 = .ok (.ifCond .eq 74, 3) := by decide +kernel
theorem dX11_next_203 : decode bX11_next 203 = .ok (.aload_n 0, 1) := by decide +kernel
theorem dX11_next_204 : decode bX11_next 204 = .ok (.iconst 2, 1) := by decide +kernel
theorem dX11_next_205 : decode bX11_next 205 = .ok (.putfield 118, 3) := by decide +kernel
theorem dX11_next_208 : decode bX11_next 208 = .ok (.aload_n 0, 1) := by decide +kernel
theorem dX11_next_209 : decode bX11_next 209 = .ok (.aload_n 0, 1) := by decide +kernel
theorem dX11_next_210 : decode bX11_next 210 = .ok (.getfield 101, 3) := by decide +kernel
theorem dX11_next_213 : decode bX11_next 213 = .ok (.bipush 48, 2) := by decide +kernel
theorem dX11_next_215 : decode bX11_next 215 = .ok (.bipush 57, 2) := by decide +kernel
theorem dX11_next_217 : decode bX11_next 217 = .ok (.invokevirtual 104, 3) := by decide +kernel
theorem dX11_next_220 : decode bX11_next 220 = .ok (.ifCond .eq 87, 3) := by decide +kernel
theorem dX11_next_223 : decode bX11_next 223 = .ok (.aload_n 0, 1) := by decide +kernel
theorem dX11_next_224 : decode bX11_next 224 = .ok (.aload_n 0, 1) := by decide +kernel
theorem dX11_next_225 : decode bX11_next 225 = .ok (.getfield 111, 3) := by decide +kernel
theorem dX11_next_228 : decode bX11_next 228 = .ok (.ldc 127, 2) := by decide +kernel
theorem dX11_next_230 : decode bX11_next 230 = .ok (.if_icmp .le 8, 3) := by decide +kernel
theorem dX11_next_233 : decode bX11_next 233 = .ok (.ldc 128, 2) := by decide +kernel
theorem dX11_next_235 : decode bX11_next 235 = .ok (.goto 23, 3) := by decide +kernel
theorem dX11_next_238 : decode bX11_next 238 = .ok (.bipush 10, 2) := by decide +kernel
theorem dX11_next_240 : decode bX11_next 240 = .ok (.aload_n 0, 1) := by decide +kernel
theorem dX11_next_241 : decode bX11_next 241 = .ok (.getfield 111, 3) := by decide +kernel
theorem dX11_next_244 : decode bX11_next 244 = .ok (.imul, 1) := by decide +kernel
theorem dX11_next_245 : decode bX11_next 245 = .ok (.aload_n 0, 1) := by decide +kernel
theorem dX11_next_246 : decode bX11_next 246 = .ok (.getfield 23, 3) := by decide +kernel
theorem dX11_next_249 : decode bX11_next 249 = .ok (.aload_n 0, 1) := by decide +kernel
theorem dX11_next_250 : decode bX11_next 250 = .ok (.getfield 101, 3) := by decide +kernel
theorem dX11_next_253 : decode bX11_next 253 = .ok (.baload, 1) := by decide +kernel
theorem dX11_next_254 : decode bX11_next 254 = .ok (.iadd, 1) := by decide +kernel
theorem dX11_next_255 : decode bX11_next 255 = .ok (.bipush 48, 2) := by decide +kernel
theorem dX11_next_257 : decode bX11_next 257 = .ok (.isub, 1) := by decide +kernel
theorem dX11_next_258 : decode bX11_next 258 = .ok (.putfield 111, 3) := by decide +kernel
theorem dX11_next_261 : decode bX11_next 261 = .ok (.aload_n 0, 1) := by decide +kernel
theorem dX11_next_262 : decode bX11_next 262 = .ok (.dup, 1) := by decide +kernel
theorem dX11_next_263 : decode bX11_next 263 = .ok (.getfield 101, 3) := by decide +kernel
theorem dX11_next_266 : decode bX11_next 266 = .ok (.iconst 1, 1) := by decide +kernel
theorem dX11_next_267 : decode bX11_next 267 = .ok (.iadd, 1) := by decide +kernel
theorem dX11_next_268 : decode bX11_next 268 = .ok (.putfield 101, 3) := by decide +kernel
theorem dX11_next_271 : decode bX11_next 271 = .ok (.goto (-63), 3) := by decide +kernel
theorem dX11_next_274 : decode bX11_next 274 = .ok (.aload_n 0, 1) := by decide +kernel
theorem dX11_next_275 : decode bX11_next 275 = .ok (.aload_n 0, 1) := by decide +kernel
theorem dX11_next_276 : decode bX11_next 276 = .ok (.getfield 23, 3) := by decide +kernel
theorem dX11_next_279 : decode bX11_next 279 = .ok (.aload_n 0, 1) := by decide +kernel
theorem dX11_next_280 : decode bX11_next 280 = .ok (.getfield 101, 3) := by decide +kernel
theorem dX11_next_283 : decode bX11_next 283 = .ok (.baload, 1) := by decide +kernel
theorem dX11_next_284 : decode bX11_next 284 = .ok (.bipush 59, 2) := by decide +kernel
theorem dX11_next_286 : decode bX11_next 286 = .ok (.if_icmp .ne 7, 3) := by decide +kernel
theorem dX11_next_289 : decode bX11_next 289 = .ok (.iconst 3, 1) := by decide +kernel
theorem dX11_next_290 : decode bX11_next 290 = .ok (.goto 4, 3) := by decide +kernel
theorem dX11_next_293 : decode bX11_next 293 = .ok (.iconst 4, 1) := by decide +kernel
theorem dX11_next_294 : decode bX11_next 294 = .ok (.putfield 118, 3) := by decide +kernel
theorem dX11_next_297 : decode bX11_next 297 = .ok (.aload_n 0, 1) := by decide +kernel
theorem dX11_next_298 : decode bX11_next 298 = .ok (.dup, 1) := by decide +kernel
theorem dX11_next_299 : decode bX11_next 299 = .ok (.getfield 101, 3) := by decide +kernel
theorem dX11_next_302 : decode bX11_next 302 = .ok (.iconst 1, 1) := by decide +kernel
theorem dX11_next_303 : decode bX11_next 303 = .ok (.iadd, 1) := by decide +kernel
theorem dX11_next_304 : decode bX11_next 304 = .ok (.putfield 101, 3) := by decide +kernel
theorem dX11_next_307 : decode bX11_next 307 = .ok (.return_, 1) := by decide +kernel
theorem dX11_isGood_0 : decode bX11_isGood 0 = .ok (.aload_n 0, 1) := by decide +kernel
theorem dX11_isGood_1 : decode bX11_isGood 1 = .ok (.getfield 129, 3) := by decide +kernel
theorem dX11_isGood_4 : decode bX11_isGood 4 = .ok (.ifCond .ne 7, 3) := by decide +kernel
theorem dX11_isGood_7 : decode bX11_isGood 7 = .ok (.iconst 1, 1) := by decide +kernel
theorem dX11_isGood_8 : decode bX11_isGood 8 = .ok (.goto 4, 3) := by decide +kernel
theorem dX11_isGood_11 : decode bX11_isGood 11 = .ok (.iconst 0, 1) := by decide +kernel
theorem dX11_isGood_12 : decode bX11_isGood 12 = .ok (.ireturn, 1) := by decide +kernel
theorem dX11_fails_0 : decode bX11_fails 0 = .ok (.aload_n 0, 1) := by decide +kernel
theorem dX11_fails_1 : decode bX11_fails 1 = .ok (.getfield 129, 3) := by decide +kernel
theorem dX11_fails_4 : decode bX11_fails 4 = .ok (.ifCond .eq 4, 3) := by decide +kernel
theorem dX11_fails_7 : decode bX11_fails 7 = .ok (.return_, 1) := by decide +kernel
theorem dX11_fails_8 : decode bX11_fails 8 = .ok (.aload_n 0, 1) := by decide +kernel
theorem dX11_fails_9 : decode bX11_fails 9 = .ok (.iload_n 1, 1) := by decide +kernel
theorem dX11_fails_10 : decode bX11_fails 10 = .ok (.putfield 129, 3) := by decide +kernel
theorem dX11_fails_13 : decode bX11_fails 13 = .ok (.aload_n 0, 1) := by decide +kernel
theorem dX11_fails_14 : decode bX11_fails 14 = .ok (.aload_n 0, 1) := by decide +kernel
theorem dX11_fails_15 : decode bX11_fails 15 = .ok (.getfield 108, 3) := by decide +kernel
theorem dX11_fails_18 : decode bX11_fails 18 = .ok (.putfield 132, 3) := by decide +kernel
theorem dX11_fails_21 : decode bX11_fails 21 = .ok (.return_, 1) := by decide +kernel
theorem dX11_is_0 : decode bX11_is 0 = .ok (.aload_n 0, 1) := by decide +kernel
theorem dX11_is_1 : decode bX11_is 1 = .ok (.getfield 129, 3) := by decide +kernel
theorem dX11_is_4 : decode bX11_is 4 = .ok (.ifCond .ne 24, 3) := by decide +kernel
theorem dX11_is_7 : decode bX11_is 7 = .ok (.aload_n 0, 1) := by decide +kernel
theorem dX11_is_8 : decode bX11_is 8 = .ok (.getfield 118, 3) := by decide +kernel
theorem dX11_is_11 : decode bX11_is 11 = .ok (.iconst 1, 1) := by decide +kernel
theorem dX11_is_12 : decode bX11_is 12 = .ok (.if_icmp .ne 16, 3) := by decide +kernel
theorem dX11_is_15 : decode bX11_is 15 = .ok (.aload_n 0, 1) := by decide +kernel
theorem dX11_is_16 : decode bX11_is 16 = .ok (.getfield 114, 3) := by decide +kernel
theorem dX11_is_19 : decode bX11_is 19 = .ok (.lload_n 1, 1) := by decide +kernel
theorem dX11_is_20 : decode bX11_is 20 = .ok (.lcmp, 1) := by decide +kernel
theorem dX11_is_21 : decode bX11_is 21 = .ok (.ifCond .ne 7, 3) := by decide +kernel
theorem dX11_is_24 : decode bX11_is 24 = .ok (.iconst 1, 1) := by decide +kernel
theorem dX11_is_25 : decode bX11_is 25 = .ok (.goto 4, 3) := by decide +kernel
theorem dX11_is_28 : decode bX11_is 28 = .ok (.iconst 0, 1) := by decide +kernel
theorem dX11_is_29 : decode bX11_is 29 = .ok (.ireturn, 1) := by decide +kernel
theorem dX11_takesWord_0 : decode bX11_takesWord 0 = .ok (.aload_n 0, 1) := by decide +kernel
theorem dX11_takesWord_1 : decode bX11_takesWord 1 = .ok (.lload_n 1, 1) := by decide +kernel
theorem dX11_takesWord_2 : decode bX11_takesWord 2 = .ok (.invokevirtual 135, 3) := by decide +kernel
theorem dX11_takesWord_5 : decode bX11_takesWord 5 = .ok (.ifCond .ne 5, 3) := by decide +kernel
theorem dX11_takesWord_8 : decode bX11_takesWord 8 = .ok (.iconst 0, 1) := by decide +kernel
theorem dX11_takesWord_9 : decode bX11_takesWord 9 = .ok (.ireturn, 1) := by decide +kernel
theorem dX11_takesWord_10 : decode bX11_takesWord 10 = .ok (.aload_n 0, 1) := by decide +kernel
theorem dX11_takesWord_11 : decode bX11_takesWord 11 = .ok (.invokevirtual 139, 3) := by decide +kernel
theorem dX11_takesWord_14 : decode bX11_takesWord 14 = .ok (.iconst 1, 1) := by decide +kernel
theorem dX11_takesWord_15 : decode bX11_takesWord 15 = .ok (.ireturn, 1) := by decide +kernel
theorem dX11_asks_0 : decode bX11_asks 0 = .ok (.aload_n 0, 1) := by decide +kernel
theorem dX11_asks_1 : decode bX11_asks 1 = .ok (.lload_n 1, 1) := by decide +kernel
theorem dX11_asks_2 : decode bX11_asks 2 = .ok (.invokevirtual 142, 3) := by decide +kernel
theorem dX11_asks_5 : decode bX11_asks 5 = .ok (.ifCond .ne 8, 3) := by decide +kernel
theorem dX11_asks_8 : decode bX11_asks 8 = .ok (.aload_n 0, 1) := by decide +kernel
theorem dX11_asks_9 : decode bX11_asks 9 = .ok (.iconst 1, 1) := by decide +kernel
theorem dX11_asks_10 : decode bX11_asks 10 = .ok (.invokevirtual 145, 3) := by decide +kernel
theorem dX11_asks_13 : decode bX11_asks 13 = .ok (.return_, 1) := by decide +kernel
theorem dX11_number_0 : decode bX11_number 0 = .ok (.aload_n 0, 1) := by decide +kernel
theorem dX11_number_1 : decode bX11_number 1 = .ok (.getfield 129, 3) := by decide +kernel
theorem dX11_number_4 : decode bX11_number 4 = .ok (.ifCond .eq 5, 3) := by decide +kernel
theorem dX11_number_7 : decode bX11_number 7 = .ok (.iload_n 1, 1) := by decide +kernel
theorem dX11_number_8 : decode bX11_number 8 = .ok (.ireturn, 1) := by decide +kernel
theorem dX11_number_9 : decode bX11_number 9 = .ok (.aload_n 0, 1) := by decide +kernel
theorem dX11_number_10 : decode bX11_number 10 = .ok (.getfield 118, 3) := by decide +kernel
theorem dX11_number_13 : decode bX11_number 13 = .ok (.iconst 2, 1) := by decide +kernel
theorem dX11_number_14 : decode bX11_number 14 = .ok (.if_icmp .eq 10, 3) := by decide +kernel
theorem dX11_number_17 : decode bX11_number 17 = .ok (.aload_n 0, 1) := by decide +kernel
theorem dX11_number_18 : decode bX11_number 18 = .ok (.iconst 1, 1) := by decide +kernel
theorem dX11_number_19 : decode bX11_number 19 = .ok (.invokevirtual 145, 3) := by decide +kernel
theorem dX11_number_22 : decode bX11_number 22 = .ok (.iload_n 1, 1) := by decide +kernel
theorem dX11_number_23 : decode bX11_number 23 = .ok (.ireturn, 1) := by decide +kernel
theorem dX11_number_24 : decode bX11_number 24 = .ok (.aload_n 0, 1) := by decide +kernel
theorem dX11_number_25 : decode bX11_number 25 = .ok (.getfield 111, 3) := by decide +kernel
theorem dX11_number_28 : decode bX11_number 28 = .ok (.i2l, 1) := by decide +kernel
theorem dX11_number_29 : decode bX11_number 29 = .ok (.iload_n 1, 1) := by decide +kernel
theorem dX11_number_30 : decode bX11_number 30 = .ok (.i2l, 1) := by decide +kernel
theorem dX11_number_31 : decode bX11_number 31 = .ok (.iload_n 2, 1) := by decide +kernel
theorem dX11_number_32 : decode bX11_number 32 = .ok (.i2l, 1) := by decide +kernel
theorem dX11_number_33 : decode bX11_number 33 = .ok (.invokestatic 82, 3) := by decide +kernel
theorem dX11_number_36 : decode bX11_number 36 = .ok (.ifCond .ne 10, 3) := by decide +kernel
theorem dX11_number_39 : decode bX11_number 39 = .ok (.aload_n 0, 1) := by decide +kernel
theorem dX11_number_40 : decode bX11_number 40 = .ok (.iconst 2, 1) := by decide +kernel
theorem dX11_number_41 : decode bX11_number 41 = .ok (.invokevirtual 145, 3) := by decide +kernel
theorem dX11_number_44 : decode bX11_number 44 = .ok (.iload_n 1, 1) := by decide +kernel
theorem dX11_number_45 : decode bX11_number 45 = .ok (.ireturn, 1) := by decide +kernel
theorem dX11_number_46 : decode bX11_number 46 = .ok (.aload_n 0, 1) := by decide +kernel
theorem dX11_number_47 : decode bX11_number 47 = .ok (.getfield 111, 3) := by decide +kernel
theorem dX11_number_50 : decode bX11_number 50 = .ok (.istore_n 3, 1) := by decide +kernel
theorem dX11_number_51 : decode bX11_number 51 = .ok (.aload_n 0, 1) := by decide +kernel
theorem dX11_number_52 : decode bX11_number 52 = .ok (.invokevirtual 139, 3) := by decide +kernel
theorem dX11_number_55 : decode bX11_number 55 = .ok (.iload_n 3, 1) := by decide +kernel
theorem dX11_number_56 : decode bX11_number 56 = .ok (.ireturn, 1) := by decide +kernel
theorem dX11_number__0 : decode bX11_number_ 0 = .ok (.aload_n 0, 1) := by decide +kernel
theorem dX11_number__1 : decode bX11_number_ 1 = .ok (.lload_n 1, 1) := by decide +kernel
theorem dX11_number__2 : decode bX11_number_ 2 = .ok (.invokevirtual 148, 3) := by decide +kernel
theorem dX11_number__5 : decode bX11_number_ 5 = .ok (.aload_n 0, 1) := by decide +kernel
theorem dX11_number__6 : decode bX11_number_ 6 = .ok (.iload_n 3, 1) := by decide +kernel
theorem dX11_number__7 : decode bX11_number_ 7 = .ok (.iload 4, 2) := by decide +kernel
theorem dX11_number__9 : decode bX11_number_ 9 = .ok (.invokevirtual 152, 3) := by decide +kernel
theorem dX11_number__12 : decode bX11_number_ 12 = .ok (.ireturn, 1) := by decide +kernel
theorem dX11_ends_0 : decode bX11_ends 0 = .ok (.aload_n 0, 1) := by decide +kernel
theorem dX11_ends_1 : decode bX11_ends 1 = .ok (.getfield 118, 3) := by decide +kernel
theorem dX11_ends_4 : decode bX11_ends 4 = .ok (.iconst 3, 1) := by decide +kernel
theorem dX11_ends_5 : decode bX11_ends 5 = .ok (.if_icmp .eq 8, 3) := by decide +kernel
theorem dX11_ends_8 : decode bX11_ends 8 = .ok (.aload_n 0, 1) := by decide +kernel
theorem dX11_ends_9 : decode bX11_ends 9 = .ok (.iconst 1, 1) := by decide +kernel
theorem dX11_ends_10 : decode bX11_ends 10 = .ok (.invokevirtual 145, 3) := by decide +kernel
theorem dX11_ends_13 : decode bX11_ends 13 = .ok (.aload_n 0, 1) := by decide +kernel
theorem dX11_ends_14 : decode bX11_ends 14 = .ok (.getfield 129, 3) := by decide +kernel
theorem dX11_ends_17 : decode bX11_ends 17 = .ok (.ifCond .ne 7, 3) := by decide +kernel
theorem dX11_ends_20 : decode bX11_ends 20 = .ok (.aload_n 0, 1) := by decide +kernel
theorem dX11_ends_21 : decode bX11_ends 21 = .ok (.invokevirtual 139, 3) := by decide +kernel
theorem dX11_ends_24 : decode bX11_ends 24 = .ok (.return_, 1) := by decide +kernel
theorem dX11_begins_0 : decode bX11_begins 0 = .ok (.aload_n 0, 1) := by decide +kernel
theorem dX11_begins_1 : decode bX11_begins 1 = .ok (.iconst 0, 1) := by decide +kernel
theorem dX11_begins_2 : decode bX11_begins 2 = .ok (.putfield 129, 3) := by decide +kernel
theorem dX11_begins_5 : decode bX11_begins 5 = .ok (.aload_n 0, 1) := by decide +kernel
theorem dX11_begins_6 : decode bX11_begins 6 = .ok (.iconst (-1), 1) := by decide +kernel
theorem dX11_begins_7 : decode bX11_begins 7 = .ok (.putfield 132, 3) := by decide +kernel
theorem dX11_begins_10 : decode bX11_begins 10 = .ok (.aload_n 0, 1) := by decide +kernel
theorem dX11_begins_11 : decode bX11_begins 11 = .ok (.iconst 0, 1) := by decide +kernel
theorem dX11_begins_12 : decode bX11_begins 12 = .ok (.putfield 101, 3) := by decide +kernel
theorem dX11_begins_15 : decode bX11_begins 15 = .ok (.aload_n 0, 1) := by decide +kernel
theorem dX11_begins_16 : decode bX11_begins 16 = .ok (.invokevirtual 139, 3) := by decide +kernel
theorem dX11_begins_19 : decode bX11_begins 19 = .ok (.return_, 1) := by decide +kernel
theorem dX11_isOver_0 : decode bX11_isOver 0 = .ok (.aload_n 0, 1) := by decide +kernel
theorem dX11_isOver_1 : decode bX11_isOver 1 = .ok (.iconst 0, 1) := by decide +kernel
theorem dX11_isOver_2 : decode bX11_isOver 2 = .ok (.putfield 94, 3) := by decide +kernel
theorem dX11_isOver_5 : decode bX11_isOver 5 = .ok (.aload_n 0, 1) := by decide +kernel
theorem dX11_isOver_6 : decode bX11_isOver 6 = .ok (.aload_n 0, 1) := by decide +kernel
theorem dX11_isOver_7 : decode bX11_isOver 7 = .ok (.getfield 129, 3) := by decide +kernel
theorem dX11_isOver_10 : decode bX11_isOver 10 = .ok (.putfield 156, 3) := by decide +kernel
theorem dX11_isOver_13 : decode bX11_isOver 13 = .ok (.aload_n 0, 1) := by decide +kernel
theorem dX11_isOver_14 : decode bX11_isOver 14 = .ok (.aload_n 0, 1) := by decide +kernel
theorem dX11_isOver_15 : decode bX11_isOver 15 = .ok (.getfield 129, 3) := by decide +kernel
theorem dX11_isOver_18 : decode bX11_isOver 18 = .ok (.ifCond .ne 7, 3) := by decide +kernel
theorem dX11_isOver_21 : decode bX11_isOver 21 = .ok (.iconst (-1), 1) := by decide +kernel
theorem dX11_isOver_22 : decode bX11_isOver 22 = .ok (.goto 7, 3) := by decide +kernel
theorem dX11_isOver_25 : decode bX11_isOver 25 = .ok (.aload_n 0, 1) := by decide +kernel
theorem dX11_isOver_26 : decode bX11_isOver 26 = .ok (.getfield 132, 3) := by decide +kernel
theorem dX11_isOver_29 : decode bX11_isOver 29 = .ok (.putfield 27, 3) := by decide +kernel
theorem dX11_isOver_32 : decode bX11_isOver 32 = .ok (.return_, 1) := by decide +kernel
theorem dX11_fault_0 : decode bX11_fault 0 = .ok (.aload_n 0, 1) := by decide +kernel
theorem dX11_fault_1 : decode bX11_fault 1 = .ok (.iconst 0, 1) := by decide +kernel
theorem dX11_fault_2 : decode bX11_fault 2 = .ok (.putfield 77, 3) := by decide +kernel
theorem dX11_fault_5 : decode bX11_fault 5 = .ok (.iload_n 1, 1) := by decide +kernel
theorem dX11_fault_6 : decode bX11_fault 6 = .ok (.ifCond .ne 10, 3) := by decide +kernel
theorem dX11_fault_9 : decode bX11_fault 9 = .ok (.aload_n 0, 1) := by decide +kernel
theorem dX11_fault_10 : decode bX11_fault 10 = .ok (.getfield 156, 3) := by decide +kernel
theorem dX11_fault_13 : decode bX11_fault 13 = .ok (.goto 16, 3) := by decide +kernel
theorem dX11_fault_16 : decode bX11_fault 16 = .ok (.iload_n 1, 1) := by decide +kernel
theorem dX11_fault_17 : decode bX11_fault 17 = .ok (.iconst 1, 1) := by decide +kernel
theorem dX11_fault_18 : decode bX11_fault 18 = .ok (.if_icmp .ne 10, 3) := by decide +kernel
theorem dX11_fault_21 : decode bX11_fault 21 = .ok (.aload_n 0, 1) := by decide +kernel
theorem dX11_fault_22 : decode bX11_fault 22 = .ok (.getfield 27, 3) := by decide +kernel
theorem dX11_fault_25 : decode bX11_fault 25 = .ok (.goto 4, 3) := by decide +kernel
theorem dX11_fault_28 : decode bX11_fault 28 = .ok (.iconst (-1), 1) := by decide +kernel
theorem dX11_fault_29 : decode bX11_fault 29 = .ok (.ireturn, 1) := by decide +kernel
theorem dX11_hasRead_0 : decode bX11_hasRead 0 = .ok (.aload_n 0, 1) := by decide +kernel
theorem dX11_hasRead_1 : decode bX11_hasRead 1 = .ok (.getfield 34, 3) := by decide +kernel
theorem dX11_hasRead_4 : decode bX11_hasRead 4 = .ok (.bipush 32, 2) := by decide +kernel
theorem dX11_hasRead_6 : decode bX11_hasRead 6 = .ok (.iload_n 1, 1) := by decide +kernel
theorem dX11_hasRead_7 : decode bX11_hasRead 7 = .ok (.iadd, 1) := by decide +kernel
theorem dX11_hasRead_8 : decode bX11_hasRead 8 = .ok (.iaload, 1) := by decide +kernel
theorem dX11_hasRead_9 : decode bX11_hasRead 9 = .ok (.ireturn, 1) := by decide +kernel
theorem dX11_tells_0 : decode bX11_tells 0 = .ok (.aload_n 0, 1) := by decide +kernel
theorem dX11_tells_1 : decode bX11_tells 1 = .ok (.getfield 34, 3) := by decide +kernel
theorem dX11_tells_4 : decode bX11_tells 4 = .ok (.bipush 32, 2) := by decide +kernel
theorem dX11_tells_6 : decode bX11_tells 6 = .ok (.iload_n 1, 1) := by decide +kernel
theorem dX11_tells_7 : decode bX11_tells 7 = .ok (.iadd, 1) := by decide +kernel
theorem dX11_tells_8 : decode bX11_tells 8 = .ok (.iload_n 2, 1) := by decide +kernel
theorem dX11_tells_9 : decode bX11_tells 9 = .ok (.iastore, 1) := by decide +kernel
theorem dX11_tells_10 : decode bX11_tells 10 = .ok (.return_, 1) := by decide +kernel
theorem dX11_pieceLine_0 : decode bX11_pieceLine 0 = .ok (.iconst 4, 1) := by decide +kernel
theorem dX11_pieceLine_1 : decode bX11_pieceLine 1 = .ok (.bipush 24, 2) := by decide +kernel
theorem dX11_pieceLine_3 : decode bX11_pieceLine 3 = .ok (.aload_n 0, 1) := by decide +kernel
theorem dX11_pieceLine_4 : decode bX11_pieceLine 4 = .ok (.bipush 6, 2) := by decide +kernel
theorem dX11_pieceLine_6 : decode bX11_pieceLine 6 = .ok (.invokevirtual 159, 3) := by decide +kernel
theorem dX11_pieceLine_9 : decode bX11_pieceLine 9 = .ok (.iadd, 1) := by decide +kernel
theorem dX11_pieceLine_10 : decode bX11_pieceLine 10 = .ok (.imul, 1) := by decide +kernel
theorem dX11_pieceLine_11 : decode bX11_pieceLine 11 = .ok (.istore_n 1, 1) := by decide +kernel
theorem dX11_pieceLine_12 : decode bX11_pieceLine 12 = .ok (.aload_n 0, 1) := by decide +kernel
theorem dX11_pieceLine_13 : decode bX11_pieceLine 13 = .ok (.getfield 40, 3) := by decide +kernel
theorem dX11_pieceLine_16 : decode bX11_pieceLine 16 = .ok (.iload_n 1, 1) := by decide +kernel
theorem dX11_pieceLine_17 : decode bX11_pieceLine 17 = .ok (.aload_n 0, 1) := by decide +kernel
theorem dX11_pieceLine_18 : decode bX11_pieceLine 18 = .ok (.ldc2_w 163, 3) := by decide +kernel
theorem dX11_pieceLine_21 : decode bX11_pieceLine 21 = .ok (.iconst 0, 1) := by decide +kernel
theorem dX11_pieceLine_22 : decode bX11_pieceLine 22 = .ok (.sipush 600, 3) := by decide +kernel
theorem dX11_pieceLine_25 : decode bX11_pieceLine 25 = .ok (.invokevirtual 165, 3) := by decide +kernel
theorem dX11_pieceLine_28 : decode bX11_pieceLine 28 = .ok (.iastore, 1) := by decide +kernel
theorem dX11_pieceLine_29 : decode bX11_pieceLine 29 = .ok (.aload_n 0, 1) := by decide +kernel
theorem dX11_pieceLine_30 : decode bX11_pieceLine 30 = .ok (.getfield 40, 3) := by decide +kernel
theorem dX11_pieceLine_33 : decode bX11_pieceLine 33 = .ok (.iload_n 1, 1) := by decide +kernel
theorem dX11_pieceLine_34 : decode bX11_pieceLine 34 = .ok (.iconst 1, 1) := by decide +kernel
theorem dX11_pieceLine_35 : decode bX11_pieceLine 35 = .ok (.iadd, 1) := by decide +kernel
theorem dX11_pieceLine_36 : decode bX11_pieceLine 36 = .ok (.aload_n 0, 1) := by decide +kernel
theorem dX11_pieceLine_37 : decode bX11_pieceLine 37 = .ok (.ldc2_w 168, 3) := by decide +kernel
theorem dX11_pieceLine_40 : decode bX11_pieceLine 40 = .ok (.iconst 1, 1) := by decide +kernel
theorem dX11_pieceLine_41 : decode bX11_pieceLine 41 = .ok (.bipush 9, 2) := by decide +kernel
theorem dX11_pieceLine_43 : decode bX11_pieceLine 43 = .ok (.invokevirtual 165, 3) := by decide +kernel
theorem dX11_pieceLine_46 : decode bX11_pieceLine 46 = .ok (.iastore, 1) := by decide +kernel
theorem dX11_pieceLine_47 : decode bX11_pieceLine 47 = .ok (.aload_n 0, 1) := by decide +kernel
theorem dX11_pieceLine_48 : decode bX11_pieceLine 48 = .ok (.getfield 40, 3) := by decide +kernel
theorem dX11_pieceLine_51 : decode bX11_pieceLine 51 = .ok (.iload_n 1, 1) := by decide +kernel
theorem dX11_pieceLine_52 : decode bX11_pieceLine 52 = .ok (.iconst 2, 1) := by decide +kernel
theorem dX11_pieceLine_53 : decode bX11_pieceLine 53 = .ok (.iadd, 1) := by decide +kernel
theorem dX11_pieceLine_54 : decode bX11_pieceLine 54 = .ok (.aload_n 0, 1) := by decide +kernel
theorem dX11_pieceLine_55 : decode bX11_pieceLine 55 = .ok (.ldc2_w 170, 3) := by decide +kernel
theorem dX11_pieceLine_58 : decode bX11_pieceLine 58 = .ok (.iconst 0, 1) := by decide +kernel
theorem dX11_pieceLine_59 : decode bX11_pieceLine 59 = .ok (.sipush 300, 3) := by decide +kernel
theorem dX11_pieceLine_62 : decode bX11_pieceLine 62 = .ok (.invokevirtual 165, 3) := by decide +kernel
theorem dX11_pieceLine_65 : decode bX11_pieceLine 65 = .ok (.iastore, 1) := by decide +kernel
theorem dX11_pieceLine_66 : decode bX11_pieceLine 66 = .ok (.aload_n 0, 1) := by decide +kernel
theorem dX11_pieceLine_67 : decode bX11_pieceLine 67 = .ok (.getfield 40, 3) := by decide +kernel
theorem dX11_pieceLine_70 : decode bX11_pieceLine 70 = .ok (.iload_n 1, 1) := by decide +kernel
theorem dX11_pieceLine_71 : decode bX11_pieceLine 71 = .ok (.iconst 3, 1) := by decide +kernel
theorem dX11_pieceLine_72 : decode bX11_pieceLine 72 = .ok (.iadd, 1) := by decide +kernel
theorem dX11_pieceLine_73 : decode bX11_pieceLine 73 = .ok (.aload_n 0, 1) := by decide +kernel
theorem dX11_pieceLine_74 : decode bX11_pieceLine 74 = .ok (.ldc2_w 172, 3) := by decide +kernel
theorem dX11_pieceLine_77 : decode bX11_pieceLine 77 = .ok (.iconst 0, 1) := by decide +kernel
theorem dX11_pieceLine_78 : decode bX11_pieceLine 78 = .ok (.bipush 14, 2) := by decide +kernel
theorem dX11_pieceLine_80 : decode bX11_pieceLine 80 = .ok (.invokevirtual 165, 3) := by decide +kernel
theorem dX11_pieceLine_83 : decode bX11_pieceLine 83 = .ok (.iastore, 1) := by decide +kernel
theorem dX11_pieceLine_84 : decode bX11_pieceLine 84 = .ok (.aload_n 0, 1) := by decide +kernel
theorem dX11_pieceLine_85 : decode bX11_pieceLine 85 = .ok (.bipush 6, 2) := by decide +kernel
theorem dX11_pieceLine_87 : decode bX11_pieceLine 87 = .ok (.aload_n 0, 1) := by decide +kernel
theorem dX11_pieceLine_88 : decode bX11_pieceLine 88 = .ok (.bipush 6, 2) := by decide +kernel
theorem dX11_pieceLine_90 : decode bX11_pieceLine 90 = .ok (.invokevirtual 159, 3) := by decide +kernel
theorem dX11_pieceLine_93 : decode bX11_pieceLine 93 = .ok (.iconst 1, 1) := by decide +kernel
theorem dX11_pieceLine_94 : decode bX11_pieceLine 94 = .ok (.iadd, 1) := by decide +kernel
theorem dX11_pieceLine_95 : decode bX11_pieceLine 95 = .ok (.invokevirtual 174, 3) := by decide +kernel
theorem dX11_pieceLine_98 : decode bX11_pieceLine 98 = .ok (.return_, 1) := by decide +kernel
theorem dX11_isRoom_0 : decode bX11_isRoom 0 = .ok (.iload_n 1, 1) := by decide +kernel
theorem dX11_isRoom_1 : decode bX11_isRoom 1 = .ok (.ifCond .eq 17, 3) := by decide +kernel
theorem dX11_isRoom_4 : decode bX11_isRoom 4 = .ok (.aload_n 0, 1) := by decide +kernel
theorem dX11_isRoom_5 : decode bX11_isRoom 5 = .ok (.iload_n 2, 1) := by decide +kernel
theorem dX11_isRoom_6 : decode bX11_isRoom 6 = .ok (.invokevirtual 159, 3) := by decide +kernel
theorem dX11_isRoom_9 : decode bX11_isRoom 9 = .ok (.iload_n 3, 1) := by decide +kernel
theorem dX11_isRoom_10 : decode bX11_isRoom 10 = .ok (.if_icmp .ne 8, 3) := by decide +kernel
theorem dX11_isRoom_13 : decode bX11_isRoom 13 = .ok (.aload_n 0, 1) := by decide +kernel
theorem dX11_isRoom_14 : decode bX11_isRoom 14 = .ok (.iconst 3, 1) := by decide +kernel
theorem dX11_isRoom_15 : decode bX11_isRoom 15 = .ok (.invokevirtual 145, 3) := by decide +kernel
theorem dX11_isRoom_18 : decode bX11_isRoom 18 = .ok (.iload_n 1, 1) := by decide +kernel
theorem dX11_isRoom_19 : decode bX11_isRoom 19 = .ok (.ifCond .eq 14, 3) := by decide +kernel
theorem dX11_isRoom_22 : decode bX11_isRoom 22 = .ok (.aload_n 0, 1) := by decide +kernel
theorem dX11_isRoom_23 : decode bX11_isRoom 23 = .ok (.getfield 129, 3) := by decide +kernel
theorem dX11_isRoom_26 : decode bX11_isRoom 26 = .ok (.ifCond .ne 7, 3) := by decide +kernel
theorem dX11_isRoom_29 : decode bX11_isRoom 29 = .ok (.aload_n 0, 1) := by decide +kernel
theorem dX11_isRoom_30 : decode bX11_isRoom 30 = .ok (.invokevirtual 139, 3) := by decide +kernel
theorem dX11_isRoom_33 : decode bX11_isRoom 33 = .ok (.iload_n 1, 1) := by decide +kernel
theorem dX11_isRoom_34 : decode bX11_isRoom 34 = .ok (.ifCond .eq 14, 3) := by decide +kernel
theorem dX11_isRoom_37 : decode bX11_isRoom 37 = .ok (.aload_n 0, 1) := by decide +kernel
theorem dX11_isRoom_38 : decode bX11_isRoom 38 = .ok (.getfield 129, 3) := by decide +kernel
theorem dX11_isRoom_41 : decode bX11_isRoom 41 = .ok (.ifCond .ne 7, 3) := by decide +kernel
theorem dX11_isRoom_44 : decode bX11_isRoom 44 = .ok (.iconst 1, 1) := by decide +kernel
theorem dX11_isRoom_45 : decode bX11_isRoom 45 = .ok (.goto 4, 3) := by decide +kernel
theorem dX11_isRoom_48 : decode bX11_isRoom 48 = .ok (.iconst 0, 1) := by decide +kernel
theorem dX11_isRoom_49 : decode bX11_isRoom 49 = .ok (.ireturn, 1) := by decide +kernel
theorem dX11_lineHere_0 : decode bX11_lineHere 0 = .ok (.aload_n 0, 1) := by decide +kernel
theorem dX11_lineHere_1 : decode bX11_lineHere 1 = .ok (.aload_n 0, 1) := by decide +kernel
theorem dX11_lineHere_2 : decode bX11_lineHere 2 = .ok (.ldc2_w 178, 3) := by decide +kernel
theorem dX11_lineHere_5 : decode bX11_lineHere 5 = .ok (.invokevirtual 135, 3) := by decide +kernel
theorem dX11_lineHere_8 : decode bX11_lineHere 8 = .ok (.iconst 5, 1) := by decide +kernel
theorem dX11_lineHere_9 : decode bX11_lineHere 9 = .ok (.bipush 7, 2) := by decide +kernel
theorem dX11_lineHere_11 : decode bX11_lineHere 11 = .ok (.invokevirtual 180, 3) := by decide +kernel
theorem dX11_lineHere_14 : decode bX11_lineHere 14 = .ok (.ifCond .eq 39, 3) := by decide +kernel
theorem dX11_lineHere_17 : decode bX11_lineHere 17 = .ok (.aload_n 0, 1) := by decide +kernel
theorem dX11_lineHere_18 : decode bX11_lineHere 18 = .ok (.getfield 37, 3) := by decide +kernel
theorem dX11_lineHere_21 : decode bX11_lineHere 21 = .ok (.bipush 28, 2) := by decide +kernel
theorem dX11_lineHere_23 : decode bX11_lineHere 23 = .ok (.aload_n 0, 1) := by decide +kernel
theorem dX11_lineHere_24 : decode bX11_lineHere 24 = .ok (.iconst 5, 1) := by decide +kernel
theorem dX11_lineHere_25 : decode bX11_lineHere 25 = .ok (.invokevirtual 159, 3) := by decide +kernel
theorem dX11_lineHere_28 : decode bX11_lineHere 28 = .ok (.iadd, 1) := by decide +kernel
theorem dX11_lineHere_29 : decode bX11_lineHere 29 = .ok (.aload_n 0, 1) := by decide +kernel
theorem dX11_lineHere_30 : decode bX11_lineHere 30 = .ok (.iconst 0, 1) := by decide +kernel
theorem dX11_lineHere_31 : decode bX11_lineHere 31 = .ok (.sipush 600, 3) := by decide +kernel
theorem dX11_lineHere_34 : decode bX11_lineHere 34 = .ok (.invokevirtual 152, 3) := by decide +kernel
theorem dX11_lineHere_37 : decode bX11_lineHere 37 = .ok (.iastore, 1) := by decide +kernel
theorem dX11_lineHere_38 : decode bX11_lineHere 38 = .ok (.aload_n 0, 1) := by decide +kernel
theorem dX11_lineHere_39 : decode bX11_lineHere 39 = .ok (.iconst 5, 1) := by decide +kernel
theorem dX11_lineHere_40 : decode bX11_lineHere 40 = .ok (.aload_n 0, 1) := by decide +kernel
theorem dX11_lineHere_41 : decode bX11_lineHere 41 = .ok (.iconst 5, 1) := by decide +kernel
theorem dX11_lineHere_42 : decode bX11_lineHere 42 = .ok (.invokevirtual 159, 3) := by decide +kernel
theorem dX11_lineHere_45 : decode bX11_lineHere 45 = .ok (.iconst 1, 1) := by decide +kernel
theorem dX11_lineHere_46 : decode bX11_lineHere 46 = .ok (.iadd, 1) := by decide +kernel
theorem dX11_lineHere_47 : decode bX11_lineHere 47 = .ok (.invokevirtual 174, 3) := by decide +kernel
theorem dX11_lineHere_50 : decode bX11_lineHere 50 = .ok (.goto 47, 3) := by decide +kernel
theorem dX11_lineHere_53 : decode bX11_lineHere 53 = .ok (.aload_n 0, 1) := by decide +kernel
theorem dX11_lineHere_54 : decode bX11_lineHere 54 = .ok (.getfield 129, 3) := by decide +kernel
theorem dX11_lineHere_57 : decode bX11_lineHere 57 = .ok (.ifCond .ne 28, 3) := by decide +kernel
theorem dX11_lineHere_60 : decode bX11_lineHere 60 = .ok (.aload_n 0, 1) := by decide +kernel
theorem dX11_lineHere_61 : decode bX11_lineHere 61 = .ok (.aload_n 0, 1) := by decide +kernel
theorem dX11_lineHere_62 : decode bX11_lineHere 62 = .ok (.ldc2_w 184, 3) := by decide +kernel
theorem dX11_lineHere_65 : decode bX11_lineHere 65 = .ok (.invokevirtual 135, 3) := by decide +kernel
theorem dX11_lineHere_68 : decode bX11_lineHere 68 = .ok (.bipush 6, 2) := by decide +kernel
theorem dX11_lineHere_70 : decode bX11_lineHere 70 = .ok (.bipush 6, 2) := by decide +kernel
theorem dX11_lineHere_72 : decode bX11_lineHere 72 = .ok (.invokevirtual 180, 3) := by decide +kernel
theorem dX11_lineHere_75 : decode bX11_lineHere 75 = .ok (.ifCond .eq 10, 3) := by decide +kernel
theorem dX11_lineHere_78 : decode bX11_lineHere 78 = .ok (.aload_n 0, 1) := by decide +kernel
theorem dX11_lineHere_79 : decode bX11_lineHere 79 = .ok (.invokevirtual 186, 3) := by decide +kernel
theorem dX11_lineHere_82 : decode bX11_lineHere 82 = .ok (.goto 15, 3) := by decide +kernel
theorem dX11_lineHere_85 : decode bX11_lineHere 85 = .ok (.aload_n 0, 1) := by decide +kernel
theorem dX11_lineHere_86 : decode bX11_lineHere 86 = .ok (.getfield 129, 3) := by decide +kernel
theorem dX11_lineHere_89 : decode bX11_lineHere 89 = .ok (.ifCond .ne 8, 3) := by decide +kernel
theorem dX11_lineHere_92 : decode bX11_lineHere 92 = .ok (.aload_n 0, 1) := by decide +kernel
theorem dX11_lineHere_93 : decode bX11_lineHere 93 = .ok (.iconst 1, 1) := by decide +kernel
theorem dX11_lineHere_94 : decode bX11_lineHere 94 = .ok (.invokevirtual 145, 3) := by decide +kernel
theorem dX11_lineHere_97 : decode bX11_lineHere 97 = .ok (.return_, 1) := by decide +kernel
theorem dX11_clears_0 : decode bX11_clears 0 = .ok (.aload_n 0, 1) := by decide +kernel
theorem dX11_clears_1 : decode bX11_clears 1 = .ok (.getfield 31, 3) := by decide +kernel
theorem dX11_clears_4 : decode bX11_clears 4 = .ok (.iconst 4, 1) := by decide +kernel
theorem dX11_clears_5 : decode bX11_clears 5 = .ok (.iconst 0, 1) := by decide +kernel
theorem dX11_clears_6 : decode bX11_clears 6 = .ok (.iastore, 1) := by decide +kernel
theorem dX11_clears_7 : decode bX11_clears 7 = .ok (.iconst 0, 1) := by decide +kernel
theorem dX11_clears_8 : decode bX11_clears 8 = .ok (.istore_n 1, 1) := by decide +kernel
theorem dX11_clears_9 : decode bX11_clears 9 = .ok (.iload_n 1, 1) := by decide +kernel
theorem dX11_clears_10 : decode bX11_clears 10 = .ok (.bipush 8, 2) := by decide +kernel
theorem dX11_clears_12 : decode bX11_clears 12 = .ok (.if_icmp .ge 15, 3) := by decide +kernel
theorem dX11_clears_15 : decode bX11_clears 15 = .ok (.aload_n 0, 1) := by decide +kernel
theorem dX11_clears_16 : decode bX11_clears 16 = .ok (.iload_n 1, 1) := by decide +kernel
theorem dX11_clears_17 : decode bX11_clears 17 = .ok (.iconst 0, 1) := by decide +kernel
theorem dX11_clears_18 : decode bX11_clears 18 = .ok (.invokevirtual 174, 3) := by decide +kernel
theorem dX11_clears_21 : decode bX11_clears 21 = .ok (.iinc 1 1, 3) := by decide +kernel
theorem dX11_clears_24 : decode bX11_clears 24 = .ok (.goto (-15), 3) := by decide +kernel
theorem dX11_clears_27 : decode bX11_clears 27 = .ok (.return_, 1) := by decide +kernel
theorem dX11_lehr_0 : decode bX11_lehr 0 = .ok (.aload_n 0, 1) := by decide +kernel
theorem dX11_lehr_1 : decode bX11_lehr 1 = .ok (.iconst 0, 1) := by decide +kernel
theorem dX11_lehr_2 : decode bX11_lehr 2 = .ok (.putfield 77, 3) := by decide +kernel
theorem dX11_lehr_5 : decode bX11_lehr 5 = .ok (.aload_n 0, 1) := by decide +kernel
theorem dX11_lehr_6 : decode bX11_lehr 6 = .ok (.invokevirtual 189, 3) := by decide +kernel
theorem dX11_lehr_9 : decode bX11_lehr 9 = .ok (.aload_n 0, 1) := by decide +kernel
theorem dX11_lehr_10 : decode bX11_lehr 10 = .ok (.invokevirtual 192, 3) := by decide +kernel
theorem dX11_lehr_13 : decode bX11_lehr 13 = .ok (.aload_n 0, 1) := by decide +kernel
theorem dX11_lehr_14 : decode bX11_lehr 14 = .ok (.invokevirtual 195, 3) := by decide +kernel
theorem dX11_lehr_17 : decode bX11_lehr 17 = .ok (.ifCond .eq 131, 3) := by decide +kernel
theorem dX11_lehr_20 : decode bX11_lehr 20 = .ok (.aload_n 0, 1) := by decide +kernel
theorem dX11_lehr_21 : decode bX11_lehr 21 = .ok (.getfield 118, 3) := by decide +kernel
theorem dX11_lehr_24 : decode bX11_lehr 24 = .ok (.ifCond .eq 124, 3) := by decide +kernel
theorem dX11_lehr_27 : decode bX11_lehr 27 = .ok (.aload_n 0, 1) := by decide +kernel
theorem dX11_lehr_28 : decode bX11_lehr 28 = .ok (.getfield 31, 3) := by decide +kernel
theorem dX11_lehr_31 : decode bX11_lehr 31 = .ok (.iconst 4, 1) := by decide +kernel
theorem dX11_lehr_32 : decode bX11_lehr 32 = .ok (.iaload, 1) := by decide +kernel
theorem dX11_lehr_33 : decode bX11_lehr 33 = .ok (.ifCond .ne 87, 3) := by decide +kernel
theorem dX11_lehr_36 : decode bX11_lehr 36 = .ok (.aload_n 0, 1) := by decide +kernel
theorem dX11_lehr_37 : decode bX11_lehr 37 = .ok (.ldc2_w 199, 3) := by decide +kernel
theorem dX11_lehr_40 : decode bX11_lehr 40 = .ok (.invokevirtual 148, 3) := by decide +kernel
theorem dX11_lehr_43 : decode bX11_lehr 43 = .ok (.aload_n 0, 1) := by decide +kernel
theorem dX11_lehr_44 : decode bX11_lehr 44 = .ok (.iconst 0, 1) := by decide +kernel
theorem dX11_lehr_45 : decode bX11_lehr 45 = .ok (.aload_n 0, 1) := by decide +kernel
theorem dX11_lehr_46 : decode bX11_lehr 46 = .ok (.ldc2_w 201, 3) := by decide +kernel
theorem dX11_lehr_49 : decode bX11_lehr 49 = .ok (.iconst 1, 1) := by decide +kernel
theorem dX11_lehr_50 : decode bX11_lehr 50 = .ok (.bipush 14, 2) := by decide +kernel
theorem dX11_lehr_52 : decode bX11_lehr 52 = .ok (.invokevirtual 165, 3) := by decide +kernel
theorem dX11_lehr_55 : decode bX11_lehr 55 = .ok (.invokevirtual 174, 3) := by decide +kernel
theorem dX11_lehr_58 : decode bX11_lehr 58 = .ok (.aload_n 0, 1) := by decide +kernel
theorem dX11_lehr_59 : decode bX11_lehr 59 = .ok (.iconst 1, 1) := by decide +kernel
theorem dX11_lehr_60 : decode bX11_lehr 60 = .ok (.aload_n 0, 1) := by decide +kernel
theorem dX11_lehr_61 : decode bX11_lehr 61 = .ok (.ldc2_w 203, 3) := by decide +kernel
theorem dX11_lehr_64 : decode bX11_lehr 64 = .ok (.iconst 0, 1) := by decide +kernel
theorem dX11_lehr_65 : decode bX11_lehr 65 = .ok (.iconst 3, 1) := by decide +kernel
theorem dX11_lehr_66 : decode bX11_lehr 66 = .ok (.invokevirtual 165, 3) := by decide +kernel
theorem dX11_lehr_69 : decode bX11_lehr 69 = .ok (.invokevirtual 174, 3) := by decide +kernel
theorem dX11_lehr_72 : decode bX11_lehr 72 = .ok (.aload_n 0, 1) := by decide +kernel
theorem dX11_lehr_73 : decode bX11_lehr 73 = .ok (.iconst 2, 1) := by decide +kernel
theorem dX11_lehr_74 : decode bX11_lehr 74 = .ok (.aload_n 0, 1) := by decide +kernel
theorem dX11_lehr_75 : decode bX11_lehr 75 = .ok (.ldc2_w 205, 3) := by decide +kernel
theorem dX11_lehr_78 : decode bX11_lehr 78 = .ok (.iconst 0, 1) := by decide +kernel
theorem dX11_lehr_79 : decode bX11_lehr 79 = .ok (.bipush 10, 2) := by decide +kernel
theorem dX11_lehr_81 : decode bX11_lehr 81 = .ok (.invokevirtual 165, 3) := by decide +kernel
theorem dX11_lehr_84 : decode bX11_lehr 84 = .ok (.invokevirtual 174, 3) := by decide +kernel
theorem dX11_lehr_87 : decode bX11_lehr 87 = .ok (.aload_n 0, 1) := by decide +kernel
theorem dX11_lehr_88 : decode bX11_lehr 88 = .ok (.iconst 3, 1) := by decide +kernel
theorem dX11_lehr_89 : decode bX11_lehr 89 = .ok (.aload_n 0, 1) := by decide +kernel
theorem dX11_lehr_90 : decode bX11_lehr 90 = .ok (.ldc2_w 207, 3) := by decide +kernel
theorem dX11_lehr_93 : decode bX11_lehr 93 = .ok (.iconst 1, 1) := by decide +kernel
theorem dX11_lehr_94 : decode bX11_lehr 94 = .ok (.iconst 4, 1) := by decide +kernel
theorem dX11_lehr_95 : decode bX11_lehr 95 = .ok (.invokevirtual 165, 3) := by decide +kernel
theorem dX11_lehr_98 : decode bX11_lehr 98 = .ok (.invokevirtual 174, 3) := by decide +kernel
theorem dX11_lehr_101 : decode bX11_lehr 101 = .ok (.aload_n 0, 1) := by decide +kernel
theorem dX11_lehr_102 : decode bX11_lehr 102 = .ok (.iconst 4, 1) := by decide +kernel
theorem dX11_lehr_103 : decode bX11_lehr 103 = .ok (.aload_n 0, 1) := by decide +kernel
theorem dX11_lehr_104 : decode bX11_lehr 104 = .ok (.ldc2_w 209, 3) := by decide +kernel
theorem dX11_lehr_107 : decode bX11_lehr 107 = .ok (.iconst 0, 1) := by decide +kernel
theorem dX11_lehr_108 : decode bX11_lehr 108 = .ok (.sipush 600, 3) := by decide +kernel
theorem dX11_lehr_111 : decode bX11_lehr 111 = .ok (.invokevirtual 165, 3) := by decide +kernel
theorem dX11_lehr_114 : decode bX11_lehr 114 = .ok (.invokevirtual 174, 3) := by decide +kernel
theorem dX11_lehr_117 : decode bX11_lehr 117 = .ok (.goto 7, 3) := by decide +kernel
theorem dX11_lehr_120 : decode bX11_lehr 120 = .ok (.aload_n 0, 1) := by decide +kernel
theorem dX11_lehr_121 : decode bX11_lehr 121 = .ok (.invokevirtual 211, 3) := by decide +kernel
theorem dX11_lehr_124 : decode bX11_lehr 124 = .ok (.aload_n 0, 1) := by decide +kernel
theorem dX11_lehr_125 : decode bX11_lehr 125 = .ok (.invokevirtual 195, 3) := by decide +kernel
theorem dX11_lehr_128 : decode bX11_lehr 128 = .ok (.ifCond .eq 7, 3) := by decide +kernel
theorem dX11_lehr_131 : decode bX11_lehr 131 = .ok (.aload_n 0, 1) := by decide +kernel
theorem dX11_lehr_132 : decode bX11_lehr 132 = .ok (.invokevirtual 214, 3) := by decide +kernel
theorem dX11_lehr_135 : decode bX11_lehr 135 = .ok (.aload_n 0, 1) := by decide +kernel
theorem dX11_lehr_136 : decode bX11_lehr 136 = .ok (.getfield 31, 3) := by decide +kernel
theorem dX11_lehr_139 : decode bX11_lehr 139 = .ok (.iconst 4, 1) := by decide +kernel
theorem dX11_lehr_140 : decode bX11_lehr 140 = .ok (.dup2, 1) := by decide +kernel
theorem dX11_lehr_141 : decode bX11_lehr 141 = .ok (.iaload, 1) := by decide +kernel
theorem dX11_lehr_142 : decode bX11_lehr 142 = .ok (.iconst 1, 1) := by decide +kernel
theorem dX11_lehr_143 : decode bX11_lehr 143 = .ok (.iadd, 1) := by decide +kernel
theorem dX11_lehr_144 : decode bX11_lehr 144 = .ok (.iastore, 1) := by decide +kernel
theorem dX11_lehr_145 : decode bX11_lehr 145 = .ok (.goto (-132), 3) := by decide +kernel
theorem dX11_lehr_148 : decode bX11_lehr 148 = .ok (.aload_n 0, 1) := by decide +kernel
theorem dX11_lehr_149 : decode bX11_lehr 149 = .ok (.invokevirtual 217, 3) := by decide +kernel
theorem dX11_lehr_152 : decode bX11_lehr 152 = .ok (.aload_n 0, 1) := by decide +kernel
theorem dX11_lehr_153 : decode bX11_lehr 153 = .ok (.getfield 129, 3) := by decide +kernel
theorem dX11_lehr_156 : decode bX11_lehr 156 = .ok (.ifCond .eq 6, 3) := by decide +kernel
theorem dX11_lehr_159 : decode bX11_lehr 159 = .ok (.bipush (-4), 2) := by decide +kernel
theorem dX11_lehr_161 : decode bX11_lehr 161 = .ok (.ireturn, 1) := by decide +kernel
theorem dX11_lehr_162 : decode bX11_lehr 162 = .ok (.aload_n 0, 1) := by decide +kernel
theorem dX11_lehr_163 : decode bX11_lehr 163 = .ok (.iconst 4, 1) := by decide +kernel
theorem dX11_lehr_164 : decode bX11_lehr 164 = .ok (.iconst 0, 1) := by decide +kernel
theorem dX11_lehr_165 : decode bX11_lehr 165 = .ok (.invokevirtual 220, 3) := by decide +kernel
theorem dX11_lehr_168 : decode bX11_lehr 168 = .ok (.aload_n 0, 1) := by decide +kernel
theorem dX11_lehr_169 : decode bX11_lehr 169 = .ok (.getfield 31, 3) := by decide +kernel
theorem dX11_lehr_172 : decode bX11_lehr 172 = .ok (.iconst 0, 1) := by decide +kernel
theorem dX11_lehr_173 : decode bX11_lehr 173 = .ok (.iaload, 1) := by decide +kernel
theorem dX11_lehr_174 : decode bX11_lehr 174 = .ok (.ireturn, 1) := by decide +kernel
theorem dX11_copyRow_0 : decode bX11_copyRow 0 = .ok (.iconst 0, 1) := by decide +kernel
theorem dX11_copyRow_1 : decode bX11_copyRow 1 = .ok (.istore 4, 2) := by decide +kernel
theorem dX11_copyRow_3 : decode bX11_copyRow 3 = .ok (.iload 4, 2) := by decide +kernel
theorem dX11_copyRow_5 : decode bX11_copyRow 5 = .ok (.iload_n 1, 1) := by decide +kernel
theorem dX11_copyRow_6 : decode bX11_copyRow 6 = .ok (.if_icmp .ge 25, 3) := by decide +kernel
theorem dX11_copyRow_9 : decode bX11_copyRow 9 = .ok (.aload_n 0, 1) := by decide +kernel
theorem dX11_copyRow_10 : decode bX11_copyRow 10 = .ok (.iload_n 1, 1) := by decide +kernel
theorem dX11_copyRow_11 : decode bX11_copyRow 11 = .ok (.iload_n 3, 1) := by decide +kernel
theorem dX11_copyRow_12 : decode bX11_copyRow 12 = .ok (.imul, 1) := by decide +kernel
theorem dX11_copyRow_13 : decode bX11_copyRow 13 = .ok (.iload 4, 2) := by decide +kernel
theorem dX11_copyRow_15 : decode bX11_copyRow 15 = .ok (.iadd, 1) := by decide +kernel
theorem dX11_copyRow_16 : decode bX11_copyRow 16 = .ok (.aload_n 0, 1) := by decide +kernel
theorem dX11_copyRow_17 : decode bX11_copyRow 17 = .ok (.iload_n 1, 1) := by decide +kernel
theorem dX11_copyRow_18 : decode bX11_copyRow 18 = .ok (.iload_n 2, 1) := by decide +kernel
theorem dX11_copyRow_19 : decode bX11_copyRow 19 = .ok (.imul, 1) := by decide +kernel
theorem dX11_copyRow_20 : decode bX11_copyRow 20 = .ok (.iload 4, 2) := by decide +kernel
theorem dX11_copyRow_22 : decode bX11_copyRow 22 = .ok (.iadd, 1) := by decide +kernel
theorem dX11_copyRow_23 : decode bX11_copyRow 23 = .ok (.iaload, 1) := by decide +kernel
theorem dX11_copyRow_24 : decode bX11_copyRow 24 = .ok (.iastore, 1) := by decide +kernel
theorem dX11_copyRow_25 : decode bX11_copyRow 25 = .ok (.iinc 4 1, 3) := by decide +kernel
theorem dX11_copyRow_28 : decode bX11_copyRow 28 = .ok (.goto (-25), 3) := by decide +kernel
theorem dX11_copyRow_31 : decode bX11_copyRow 31 = .ok (.return_, 1) := by decide +kernel
theorem dX11_copyLehr_0 : decode bX11_copyLehr 0 = .ok (.aload_n 0, 1) := by decide +kernel
theorem dX11_copyLehr_1 : decode bX11_copyLehr 1 = .ok (.getfield 31, 3) := by decide +kernel
theorem dX11_copyLehr_4 : decode bX11_copyLehr 4 = .ok (.iconst 1, 1) := by decide +kernel
theorem dX11_copyLehr_5 : decode bX11_copyLehr 5 = .ok (.iload_n 1, 1) := by decide +kernel
theorem dX11_copyLehr_6 : decode bX11_copyLehr 6 = .ok (.iload_n 2, 1) := by decide +kernel
theorem dX11_copyLehr_7 : decode bX11_copyLehr 7 = .ok (.invokestatic 223, 3) := by decide +kernel
theorem dX11_copyLehr_10 : decode bX11_copyLehr 10 = .ok (.aload_n 0, 1) := by decide +kernel
theorem dX11_copyLehr_11 : decode bX11_copyLehr 11 = .ok (.getfield 34, 3) := by decide +kernel
theorem dX11_copyLehr_14 : decode bX11_copyLehr 14 = .ok (.bipush 8, 2) := by decide +kernel
theorem dX11_copyLehr_16 : decode bX11_copyLehr 16 = .ok (.iload_n 1, 1) := by decide +kernel
theorem dX11_copyLehr_17 : decode bX11_copyLehr 17 = .ok (.iload_n 2, 1) := by decide +kernel
theorem dX11_copyLehr_18 : decode bX11_copyLehr 18 = .ok (.invokestatic 223, 3) := by decide +kernel
theorem dX11_copyLehr_21 : decode bX11_copyLehr 21 = .ok (.aload_n 0, 1) := by decide +kernel
theorem dX11_copyLehr_22 : decode bX11_copyLehr 22 = .ok (.getfield 37, 3) := by decide +kernel
theorem dX11_copyLehr_25 : decode bX11_copyLehr 25 = .ok (.bipush 7, 2) := by decide +kernel
theorem dX11_copyLehr_27 : decode bX11_copyLehr 27 = .ok (.iload_n 1, 1) := by decide +kernel
theorem dX11_copyLehr_28 : decode bX11_copyLehr 28 = .ok (.iload_n 2, 1) := by decide +kernel
theorem dX11_copyLehr_29 : decode bX11_copyLehr 29 = .ok (.invokestatic 223, 3) := by decide +kernel
theorem dX11_copyLehr_32 : decode bX11_copyLehr 32 = .ok (.aload_n 0, 1) := by decide +kernel
theorem dX11_copyLehr_33 : decode bX11_copyLehr 33 = .ok (.getfield 40, 3) := by decide +kernel
theorem dX11_copyLehr_36 : decode bX11_copyLehr 36 = .ok (.bipush 24, 2) := by decide +kernel
theorem dX11_copyLehr_38 : decode bX11_copyLehr 38 = .ok (.iload_n 1, 1) := by decide +kernel
theorem dX11_copyLehr_39 : decode bX11_copyLehr 39 = .ok (.iload_n 2, 1) := by decide +kernel
theorem dX11_copyLehr_40 : decode bX11_copyLehr 40 = .ok (.invokestatic 223, 3) := by decide +kernel
theorem dX11_copyLehr_43 : decode bX11_copyLehr 43 = .ok (.aload_n 0, 1) := by decide +kernel
theorem dX11_copyLehr_44 : decode bX11_copyLehr 44 = .ok (.getfield 43, 3) := by decide +kernel
theorem dX11_copyLehr_47 : decode bX11_copyLehr 47 = .ok (.bipush 120, 2) := by decide +kernel
theorem dX11_copyLehr_49 : decode bX11_copyLehr 49 = .ok (.iload_n 1, 1) := by decide +kernel
theorem dX11_copyLehr_50 : decode bX11_copyLehr 50 = .ok (.iload_n 2, 1) := by decide +kernel
theorem dX11_copyLehr_51 : decode bX11_copyLehr 51 = .ok (.invokestatic 223, 3) := by decide +kernel
theorem dX11_copyLehr_54 : decode bX11_copyLehr 54 = .ok (.return_, 1) := by decide +kernel
theorem dX11_isLehr_0 : decode bX11_isLehr 0 = .ok (.aload_n 0, 1) := by decide +kernel
theorem dX11_isLehr_1 : decode bX11_isLehr 1 = .ok (.getfield 31, 3) := by decide +kernel
theorem dX11_isLehr_4 : decode bX11_isLehr 4 = .ok (.iconst 0, 1) := by decide +kernel
theorem dX11_isLehr_5 : decode bX11_isLehr 5 = .ok (.iaload, 1) := by decide +kernel
theorem dX11_isLehr_6 : decode bX11_isLehr 6 = .ok (.ifCond .le 7, 3) := by decide +kernel
theorem dX11_isLehr_9 : decode bX11_isLehr 9 = .ok (.iconst 1, 1) := by decide +kernel
theorem dX11_isLehr_10 : decode bX11_isLehr 10 = .ok (.goto 4, 3) := by decide +kernel
theorem dX11_isLehr_13 : decode bX11_isLehr 13 = .ok (.iconst 0, 1) := by decide +kernel
theorem dX11_isLehr_14 : decode bX11_isLehr 14 = .ok (.ireturn, 1) := by decide +kernel
theorem dX11_steps_0 : decode bX11_steps 0 = .ok (.aload_n 0, 1) := by decide +kernel
theorem dX11_steps_1 : decode bX11_steps 1 = .ok (.getfield 34, 3) := by decide +kernel
theorem dX11_steps_4 : decode bX11_steps 4 = .ok (.iconst 0, 1) := by decide +kernel
theorem dX11_steps_5 : decode bX11_steps 5 = .ok (.iaload, 1) := by decide +kernel
theorem dX11_steps_6 : decode bX11_steps 6 = .ok (.ireturn, 1) := by decide +kernel
theorem dX11_pieces_0 : decode bX11_pieces 0 = .ok (.aload_n 0, 1) := by decide +kernel
theorem dX11_pieces_1 : decode bX11_pieces 1 = .ok (.getfield 34, 3) := by decide +kernel
theorem dX11_pieces_4 : decode bX11_pieces 4 = .ok (.bipush 6, 2) := by decide +kernel
theorem dX11_pieces_6 : decode bX11_pieces 6 = .ok (.iaload, 1) := by decide +kernel
theorem dX11_pieces_7 : decode bX11_pieces 7 = .ok (.ireturn, 1) := by decide +kernel
theorem dX11_isZone_0 : decode bX11_isZone 0 = .ok (.iload_n 1, 1) := by decide +kernel
theorem dX11_isZone_1 : decode bX11_isZone 1 = .ok (.i2l, 1) := by decide +kernel
theorem dX11_isZone_2 : decode bX11_isZone 2 = .ok (.lconst 0, 1) := by decide +kernel
theorem dX11_isZone_3 : decode bX11_isZone 3 = .ok (.aload_n 0, 1) := by decide +kernel
theorem dX11_isZone_4 : decode bX11_isZone 4 = .ok (.getfield 34, 3) := by decide +kernel
theorem dX11_isZone_7 : decode bX11_isZone 7 = .ok (.iconst 5, 1) := by decide +kernel
theorem dX11_isZone_8 : decode bX11_isZone 8 = .ok (.iaload, 1) := by decide +kernel
theorem dX11_isZone_9 : decode bX11_isZone 9 = .ok (.i2l, 1) := by decide +kernel
theorem dX11_isZone_10 : decode bX11_isZone 10 = .ok (.lconst 1, 1) := by decide +kernel
theorem dX11_isZone_11 : decode bX11_isZone 11 = .ok (.lsub, 1) := by decide +kernel
theorem dX11_isZone_12 : decode bX11_isZone 12 = .ok (.invokestatic 82, 3) := by decide +kernel
theorem dX11_isZone_15 : decode bX11_isZone 15 = .ok (.ireturn, 1) := by decide +kernel
theorem dX11_isPiece_0 : decode bX11_isPiece 0 = .ok (.lload_n 1, 1) := by decide +kernel
theorem dX11_isPiece_1 : decode bX11_isPiece 1 = .ok (.lconst 0, 1) := by decide +kernel
theorem dX11_isPiece_2 : decode bX11_isPiece 2 = .ok (.aload_n 0, 1) := by decide +kernel
theorem dX11_isPiece_3 : decode bX11_isPiece 3 = .ok (.invokevirtual 227, 3) := by decide +kernel
theorem dX11_isPiece_6 : decode bX11_isPiece 6 = .ok (.i2l, 1) := by decide +kernel
theorem dX11_isPiece_7 : decode bX11_isPiece 7 = .ok (.lconst 1, 1) := by decide +kernel
theorem dX11_isPiece_8 : decode bX11_isPiece 8 = .ok (.lsub, 1) := by decide +kernel
theorem dX11_isPiece_9 : decode bX11_isPiece 9 = .ok (.invokestatic 82, 3) := by decide +kernel
theorem dX11_isPiece_12 : decode bX11_isPiece 12 = .ok (.ireturn, 1) := by decide +kernel
theorem dX11_isStep_0 : decode bX11_isStep 0 = .ok (.aload_n 0, 1) := by decide +kernel
theorem dX11_isStep_1 : decode bX11_isStep 1 = .ok (.invokevirtual 231, 3) := by decide +kernel
theorem dX11_isStep_4 : decode bX11_isStep 4 = .ok (.ifCond .eq 20, 3) := by decide +kernel
theorem dX11_isStep_7 : decode bX11_isStep 7 = .ok (.lload_n 1, 1) := by decide +kernel
theorem dX11_isStep_8 : decode bX11_isStep 8 = .ok (.lconst 0, 1) := by decide +kernel
theorem dX11_isStep_9 : decode bX11_isStep 9 = .ok (.aload_n 0, 1) := by decide +kernel
theorem dX11_isStep_10 : decode bX11_isStep 10 = .ok (.invokevirtual 234, 3) := by decide +kernel
theorem dX11_isStep_13 : decode bX11_isStep 13 = .ok (.i2l, 1) := by decide +kernel
theorem dX11_isStep_14 : decode bX11_isStep 14 = .ok (.invokestatic 82, 3) := by decide +kernel
theorem dX11_isStep_17 : decode bX11_isStep 17 = .ok (.ifCond .eq 7, 3) := by decide +kernel
theorem dX11_isStep_20 : decode bX11_isStep 20 = .ok (.iconst 1, 1) := by decide +kernel
theorem dX11_isStep_21 : decode bX11_isStep 21 = .ok (.goto 4, 3) := by decide +kernel
theorem dX11_isStep_24 : decode bX11_isStep 24 = .ok (.iconst 0, 1) := by decide +kernel
theorem dX11_isStep_25 : decode bX11_isStep 25 = .ok (.ireturn, 1) := by decide +kernel
theorem dX11_isAhead_0 : decode bX11_isAhead 0 = .ok (.iload_n 1, 1) := by decide +kernel
theorem dX11_isAhead_1 : decode bX11_isAhead 1 = .ok (.i2l, 1) := by decide +kernel
theorem dX11_isAhead_2 : decode bX11_isAhead 2 = .ok (.lconst 0, 1) := by decide +kernel
theorem dX11_isAhead_3 : decode bX11_isAhead 3 = .ok (.aload_n 0, 1) := by decide +kernel
theorem dX11_isAhead_4 : decode bX11_isAhead 4 = .ok (.invokevirtual 234, 3) := by decide +kernel
theorem dX11_isAhead_7 : decode bX11_isAhead 7 = .ok (.i2l, 1) := by decide +kernel
theorem dX11_isAhead_8 : decode bX11_isAhead 8 = .ok (.lconst 1, 1) := by decide +kernel
theorem dX11_isAhead_9 : decode bX11_isAhead 9 = .ok (.lsub, 1) := by decide +kernel
theorem dX11_isAhead_10 : decode bX11_isAhead 10 = .ok (.invokestatic 82, 3) := by decide +kernel
theorem dX11_isAhead_13 : decode bX11_isAhead 13 = .ok (.ireturn, 1) := by decide +kernel
theorem dX11_isThen_0 : decode bX11_isThen 0 = .ok (.aload_n 0, 1) := by decide +kernel
theorem dX11_isThen_1 : decode bX11_isThen 1 = .ok (.iload_n 1, 1) := by decide +kernel
theorem dX11_isThen_2 : decode bX11_isThen 2 = .ok (.i2l, 1) := by decide +kernel
theorem dX11_isThen_3 : decode bX11_isThen 3 = .ok (.invokevirtual 237, 3) := by decide +kernel
theorem dX11_isThen_6 : decode bX11_isThen 6 = .ok (.ifCond .eq 16, 3) := by decide +kernel
theorem dX11_isThen_9 : decode bX11_isThen 9 = .ok (.aload_n 0, 1) := by decide +kernel
theorem dX11_isThen_10 : decode bX11_isThen 10 = .ok (.iload_n 2, 1) := by decide +kernel
theorem dX11_isThen_11 : decode bX11_isThen 11 = .ok (.i2l, 1) := by decide +kernel
theorem dX11_isThen_12 : decode bX11_isThen 12 = .ok (.invokevirtual 240, 3) := by decide +kernel
theorem dX11_isThen_15 : decode bX11_isThen 15 = .ok (.ifCond .eq 7, 3) := by decide +kernel
theorem dX11_isThen_18 : decode bX11_isThen 18 = .ok (.iconst 1, 1) := by decide +kernel
theorem dX11_isThen_19 : decode bX11_isThen 19 = .ok (.goto 4, 3) := by decide +kernel
theorem dX11_isThen_22 : decode bX11_isThen 22 = .ok (.iconst 0, 1) := by decide +kernel
theorem dX11_isThen_23 : decode bX11_isThen 23 = .ok (.ireturn, 1) := by decide +kernel
theorem dX11_isHalf_0 : decode bX11_isHalf 0 = .ok (.iload_n 0, 1) := by decide +kernel
theorem dX11_isHalf_1 : decode bX11_isHalf 1 = .ok (.i2l, 1) := by decide +kernel
theorem dX11_isHalf_2 : decode bX11_isHalf 2 = .ok (.lconst 0, 1) := by decide +kernel
theorem dX11_isHalf_3 : decode bX11_isHalf 3 = .ok (.lconst 1, 1) := by decide +kernel
theorem dX11_isHalf_4 : decode bX11_isHalf 4 = .ok (.invokestatic 82, 3) := by decide +kernel
theorem dX11_isHalf_7 : decode bX11_isHalf 7 = .ok (.ireturn, 1) := by decide +kernel
theorem dX11_isBit_0 : decode bX11_isBit 0 = .ok (.iload_n 0, 1) := by decide +kernel
theorem dX11_isBit_1 : decode bX11_isBit 1 = .ok (.iload_n 1, 1) := by decide +kernel
theorem dX11_isBit_2 : decode bX11_isBit 2 = .ok (.ishr, 1) := by decide +kernel
theorem dX11_isBit_3 : decode bX11_isBit 3 = .ok (.iconst 1, 1) := by decide +kernel
theorem dX11_isBit_4 : decode bX11_isBit 4 = .ok (.iand, 1) := by decide +kernel
theorem dX11_isBit_5 : decode bX11_isBit 5 = .ok (.iconst 1, 1) := by decide +kernel
theorem dX11_isBit_6 : decode bX11_isBit 6 = .ok (.if_icmp .ne 7, 3) := by decide +kernel
theorem dX11_isBit_9 : decode bX11_isBit 9 = .ok (.iconst 1, 1) := by decide +kernel
theorem dX11_isBit_10 : decode bX11_isBit 10 = .ok (.goto 4, 3) := by decide +kernel
theorem dX11_isBit_13 : decode bX11_isBit 13 = .ok (.iconst 0, 1) := by decide +kernel
theorem dX11_isBit_14 : decode bX11_isBit 14 = .ok (.ireturn, 1) := by decide +kernel
theorem dX11_sizeOf_0 : decode bX11_sizeOf 0 = .ok (.iconst 0, 1) := by decide +kernel
theorem dX11_sizeOf_1 : decode bX11_sizeOf 1 = .ok (.istore_n 1, 1) := by decide +kernel
theorem dX11_sizeOf_2 : decode bX11_sizeOf 2 = .ok (.iload_n 0, 1) := by decide +kernel
theorem dX11_sizeOf_3 : decode bX11_sizeOf 3 = .ok (.istore_n 2, 1) := by decide +kernel
theorem dX11_sizeOf_4 : decode bX11_sizeOf 4 = .ok (.iload_n 2, 1) := by decide +kernel
theorem dX11_sizeOf_5 : decode bX11_sizeOf 5 = .ok (.ifCond .eq 15, 3) := by decide +kernel
theorem dX11_sizeOf_8 : decode bX11_sizeOf 8 = .ok (.iinc 1 1, 3) := by decide +kernel
theorem dX11_sizeOf_11 : decode bX11_sizeOf 11 = .ok (.iload_n 2, 1) := by decide +kernel
theorem dX11_sizeOf_12 : decode bX11_sizeOf 12 = .ok (.iload_n 2, 1) := by decide +kernel
theorem dX11_sizeOf_13 : decode bX11_sizeOf 13 = .ok (.iconst 1, 1) := by decide +kernel
theorem dX11_sizeOf_14 : decode bX11_sizeOf 14 = .ok (.isub, 1) := by decide +kernel
theorem dX11_sizeOf_15 : decode bX11_sizeOf 15 = .ok (.iand, 1) := by decide +kernel
theorem dX11_sizeOf_16 : decode bX11_sizeOf 16 = .ok (.istore_n 2, 1) := by decide +kernel
theorem dX11_sizeOf_17 : decode bX11_sizeOf 17 = .ok (.goto (-13), 3) := by decide +kernel
theorem dX11_sizeOf_20 : decode bX11_sizeOf 20 = .ok (.iload_n 1, 1) := by decide +kernel
theorem dX11_sizeOf_21 : decode bX11_sizeOf 21 = .ok (.ireturn, 1) := by decide +kernel
theorem dX11_lessOf_0 : decode bX11_lessOf 0 = .ok (.iload_n 0, 1) := by decide +kernel
theorem dX11_lessOf_1 : decode bX11_lessOf 1 = .ok (.iload_n 1, 1) := by decide +kernel
theorem dX11_lessOf_2 : decode bX11_lessOf 2 = .ok (.if_icmp .ge 7, 3) := by decide +kernel
theorem dX11_lessOf_5 : decode bX11_lessOf 5 = .ok (.iload_n 0, 1) := by decide +kernel
theorem dX11_lessOf_6 : decode bX11_lessOf 6 = .ok (.goto 4, 3) := by decide +kernel
theorem dX11_lessOf_9 : decode bX11_lessOf 9 = .ok (.iload_n 1, 1) := by decide +kernel
theorem dX11_lessOf_10 : decode bX11_lessOf 10 = .ok (.ireturn, 1) := by decide +kernel
theorem dX11_moreOf_0 : decode bX11_moreOf 0 = .ok (.iload_n 0, 1) := by decide +kernel
theorem dX11_moreOf_1 : decode bX11_moreOf 1 = .ok (.iload_n 1, 1) := by decide +kernel
theorem dX11_moreOf_2 : decode bX11_moreOf 2 = .ok (.if_icmp .le 7, 3) := by decide +kernel
theorem dX11_moreOf_5 : decode bX11_moreOf 5 = .ok (.iload_n 0, 1) := by decide +kernel
theorem dX11_moreOf_6 : decode bX11_moreOf 6 = .ok (.goto 4, 3) := by decide +kernel
theorem dX11_moreOf_9 : decode bX11_moreOf 9 = .ok (.iload_n 1, 1) := by decide +kernel
theorem dX11_moreOf_10 : decode bX11_moreOf 10 = .ok (.ireturn, 1) := by decide +kernel
theorem dX11_apart_0 : decode bX11_apart 0 = .ok (.iload_n 0, 1) := by decide +kernel
theorem dX11_apart_1 : decode bX11_apart 1 = .ok (.iload_n 1, 1) := by decide +kernel
theorem dX11_apart_2 : decode bX11_apart 2 = .ok (.if_icmp .ge 9, 3) := by decide +kernel
theorem dX11_apart_5 : decode bX11_apart 5 = .ok (.iload_n 1, 1) := by decide +kernel
theorem dX11_apart_6 : decode bX11_apart 6 = .ok (.iload_n 0, 1) := by decide +kernel
theorem dX11_apart_7 : decode bX11_apart 7 = .ok (.isub, 1) := by decide +kernel
theorem dX11_apart_8 : decode bX11_apart 8 = .ok (.goto 6, 3) := by decide +kernel
theorem dX11_apart_11 : decode bX11_apart 11 = .ok (.iload_n 0, 1) := by decide +kernel
theorem dX11_apart_12 : decode bX11_apart 12 = .ok (.iload_n 1, 1) := by decide +kernel
theorem dX11_apart_13 : decode bX11_apart 13 = .ok (.isub, 1) := by decide +kernel
theorem dX11_apart_14 : decode bX11_apart 14 = .ok (.ireturn, 1) := by decide +kernel
theorem dX11_lays_0 : decode bX11_lays 0 = .ok (.aload_n 0, 1) := by decide +kernel
theorem dX11_lays_1 : decode bX11_lays 1 = .ok (.aload_n 0, 1) := by decide +kernel
theorem dX11_lays_2 : decode bX11_lays 2 = .ok (.getfield 34, 3) := by decide +kernel
theorem dX11_lays_5 : decode bX11_lays 5 = .ok (.iconst 1, 1) := by decide +kernel
theorem dX11_lays_6 : decode bX11_lays 6 = .ok (.iaload, 1) := by decide +kernel
theorem dX11_lays_7 : decode bX11_lays 7 = .ok (.putfield 243, 3) := by decide +kernel
theorem dX11_lays_10 : decode bX11_lays 10 = .ok (.aload_n 0, 1) := by decide +kernel
theorem dX11_lays_11 : decode bX11_lays 11 = .ok (.aload_n 0, 1) := by decide +kernel
theorem dX11_lays_12 : decode bX11_lays 12 = .ok (.getfield 34, 3) := by decide +kernel
theorem dX11_lays_15 : decode bX11_lays 15 = .ok (.iconst 3, 1) := by decide +kernel
theorem dX11_lays_16 : decode bX11_lays 16 = .ok (.iaload, 1) := by decide +kernel
theorem dX11_lays_17 : decode bX11_lays 17 = .ok (.putfield 246, 3) := by decide +kernel
theorem dX11_lays_20 : decode bX11_lays 20 = .ok (.aload_n 0, 1) := by decide +kernel
theorem dX11_lays_21 : decode bX11_lays 21 = .ok (.iconst 0, 1) := by decide +kernel
theorem dX11_lays_22 : decode bX11_lays 22 = .ok (.putfield 249, 3) := by decide +kernel
theorem dX11_lays_25 : decode bX11_lays 25 = .ok (.aload_n 0, 1) := by decide +kernel
theorem dX11_lays_26 : decode bX11_lays 26 = .ok (.aload_n 0, 1) := by decide +kernel
theorem dX11_lays_27 : decode bX11_lays 27 = .ok (.getfield 34, 3) := by decide +kernel
theorem dX11_lays_30 : decode bX11_lays 30 = .ok (.iconst 5, 1) := by decide +kernel
theorem dX11_lays_31 : decode bX11_lays 31 = .ok (.iaload, 1) := by decide +kernel
theorem dX11_lays_32 : decode bX11_lays 32 = .ok (.putfield 252, 3) := by decide +kernel
theorem dX11_lays_35 : decode bX11_lays 35 = .ok (.aload_n 0, 1) := by decide +kernel
theorem dX11_lays_36 : decode bX11_lays 36 = .ok (.aload_n 0, 1) := by decide +kernel
theorem dX11_lays_37 : decode bX11_lays 37 = .ok (.getfield 252, 3) := by decide +kernel
theorem dX11_lays_40 : decode bX11_lays 40 = .ok (.putfield 255, 3) := by decide +kernel
theorem dX11_lays_43 : decode bX11_lays 43 = .ok (.iconst 0, 1) := by decide +kernel
theorem dX11_lays_44 : decode bX11_lays 44 = .ok (.istore_n 1, 1) := by decide +kernel
theorem dX11_lays_45 : decode bX11_lays 45 = .ok (.iload_n 1, 1) := by decide +kernel
theorem dX11_lays_46 : decode bX11_lays 46 = .ok (.aload_n 0, 1) := by decide +kernel
theorem dX11_lays_47 : decode bX11_lays 47 = .ok (.getfield 252, 3) := by decide +kernel
theorem dX11_lays_50 : decode bX11_lays 50 = .ok (.if_icmp .ge 21, 3) := by decide +kernel
theorem dX11_lays_53 : decode bX11_lays 53 = .ok (.aload_n 0, 1) := by decide +kernel
theorem dX11_lays_54 : decode bX11_lays 54 = .ok (.getfield 50, 3) := by decide +kernel
theorem dX11_lays_57 : decode bX11_lays 57 = .ok (.iload_n 1, 1) := by decide +kernel
theorem dX11_lays_58 : decode bX11_lays 58 = .ok (.aload_n 0, 1) := by decide +kernel
theorem dX11_lays_59 : decode bX11_lays 59 = .ok (.getfield 37, 3) := by decide +kernel
theorem dX11_lays_62 : decode bX11_lays 62 = .ok (.iload_n 1, 1) := by decide +kernel
theorem dX11_lays_63 : decode bX11_lays 63 = .ok (.iaload, 1) := by decide +kernel
theorem dX11_lays_64 : decode bX11_lays 64 = .ok (.iastore, 1) := by decide +kernel
theorem dX11_lays_65 : decode bX11_lays 65 = .ok (.iinc 1 1, 3) := by decide +kernel
theorem dX11_lays_68 : decode bX11_lays 68 = .ok (.goto (-23), 3) := by decide +kernel
theorem dX11_lays_71 : decode bX11_lays 71 = .ok (.iconst 0, 1) := by decide +kernel
theorem dX11_lays_72 : decode bX11_lays 72 = .ok (.istore_n 1, 1) := by decide +kernel
theorem dX11_lays_73 : decode bX11_lays 73 = .ok (.iload_n 1, 1) := by decide +kernel
theorem dX11_lays_74 : decode bX11_lays 74 = .ok (.aload_n 0, 1) := by decide +kernel
theorem dX11_lays_75 : decode bX11_lays 75 = .ok (.invokevirtual 227, 3) := by decide +kernel
theorem dX11_lays_78 : decode bX11_lays 78 = .ok (.if_icmp .ge 41, 3) := by decide +kernel
theorem dX11_lays_81 : decode bX11_lays 81 = .ok (.aload_n 0, 1) := by decide +kernel
theorem dX11_lays_82 : decode bX11_lays 82 = .ok (.getfield 53, 3) := by decide +kernel
theorem dX11_lays_85 : decode bX11_lays 85 = .ok (.iload_n 1, 1) := by decide +kernel
theorem dX11_lays_86 : decode bX11_lays 86 = .ok (.aload_n 0, 1) := by decide +kernel
theorem dX11_lays_87 : decode bX11_lays 87 = .ok (.getfield 40, 3) := by decide +kernel
theorem dX11_lays_90 : decode bX11_lays 90 = .ok (.iconst 4, 1) := by decide +kernel
theorem dX11_lays_91 : decode bX11_lays 91 = .ok (.iload_n 1, 1) := by decide +kernel
theorem dX11_lays_92 : decode bX11_lays 92 = .ok (.imul, 1) := by decide +kernel
theorem dX11_lays_93 : decode bX11_lays 93 = .ok (.iconst 1, 1) := by decide +kernel
theorem dX11_lays_94 : decode bX11_lays 94 = .ok (.iadd, 1) := by decide +kernel
theorem dX11_lays_95 : decode bX11_lays 95 = .ok (.iaload, 1) := by decide +kernel
theorem dX11_lays_96 : decode bX11_lays 96 = .ok (.iastore, 1) := by decide +kernel
theorem dX11_lays_97 : decode bX11_lays 97 = .ok (.aload_n 0, 1) := by decide +kernel
theorem dX11_lays_98 : decode bX11_lays 98 = .ok (.getfield 56, 3) := by decide +kernel
theorem dX11_lays_101 : decode bX11_lays 101 = .ok (.iload_n 1, 1) := by decide +kernel
theorem dX11_lays_102 : decode bX11_lays 102 = .ok (.aload_n 0, 1) := by decide +kernel
theorem dX11_lays_103 : decode bX11_lays 103 = .ok (.getfield 40, 3) := by decide +kernel
theorem dX11_lays_106 : decode bX11_lays 106 = .ok (.iconst 4, 1) := by decide +kernel
theorem dX11_lays_107 : decode bX11_lays 107 = .ok (.iload_n 1, 1) := by decide +kernel
theorem dX11_lays_108 : decode bX11_lays 108 = .ok (.imul, 1) := by decide +kernel
theorem dX11_lays_109 : decode bX11_lays 109 = .ok (.iconst 2, 1) := by decide +kernel
theorem dX11_lays_110 : decode bX11_lays 110 = .ok (.iadd, 1) := by decide +kernel
theorem dX11_lays_111 : decode bX11_lays 111 = .ok (.iaload, 1) := by decide +kernel
theorem dX11_lays_112 : decode bX11_lays 112 = .ok (.iastore, 1) := by decide +kernel
theorem dX11_lays_113 : decode bX11_lays 113 = .ok (.iinc 1 1, 3) := by decide +kernel
theorem dX11_lays_116 : decode bX11_lays 116 = .ok (.goto (-43), 3) := by decide +kernel
theorem dX11_lays_119 : decode bX11_lays 119 = .ok (.return_, 1) := by decide +kernel
theorem dX11_skips_0 : decode bX11_skips 0 = .ok (.aload_n 0, 1) := by decide +kernel
theorem dX11_skips_1 : decode bX11_skips 1 = .ok (.dup, 1) := by decide +kernel
theorem dX11_skips_2 : decode bX11_skips 2 = .ok (.getfield 252, 3) := by decide +kernel
theorem dX11_skips_5 : decode bX11_skips 5 = .ok (.iconst 1, 1) := by decide +kernel
theorem dX11_skips_6 : decode bX11_skips 6 = .ok (.isub, 1) := by decide +kernel
theorem dX11_skips_7 : decode bX11_skips 7 = .ok (.putfield 252, 3) := by decide +kernel
theorem dX11_skips_10 : decode bX11_skips 10 = .ok (.aload_n 0, 1) := by decide +kernel
theorem dX11_skips_11 : decode bX11_skips 11 = .ok (.iload_n 1, 1) := by decide +kernel
theorem dX11_skips_12 : decode bX11_skips 12 = .ok (.putfield 255, 3) := by decide +kernel
theorem dX11_skips_15 : decode bX11_skips 15 = .ok (.iload_n 1, 1) := by decide +kernel
theorem dX11_skips_16 : decode bX11_skips 16 = .ok (.istore_n 2, 1) := by decide +kernel
theorem dX11_skips_17 : decode bX11_skips 17 = .ok (.iload_n 2, 1) := by decide +kernel
theorem dX11_skips_18 : decode bX11_skips 18 = .ok (.aload_n 0, 1) := by decide +kernel
theorem dX11_skips_19 : decode bX11_skips 19 = .ok (.getfield 252, 3) := by decide +kernel
theorem dX11_skips_22 : decode bX11_skips 22 = .ok (.if_icmp .ge 23, 3) := by decide +kernel
theorem dX11_skips_25 : decode bX11_skips 25 = .ok (.aload_n 0, 1) := by decide +kernel
theorem dX11_skips_26 : decode bX11_skips 26 = .ok (.getfield 50, 3) := by decide +kernel
theorem dX11_skips_29 : decode bX11_skips 29 = .ok (.iload_n 2, 1) := by decide +kernel
theorem dX11_skips_30 : decode bX11_skips 30 = .ok (.aload_n 0, 1) := by decide +kernel
theorem dX11_skips_31 : decode bX11_skips 31 = .ok (.getfield 37, 3) := by decide +kernel
theorem dX11_skips_34 : decode bX11_skips 34 = .ok (.iload_n 2, 1) := by decide +kernel
theorem dX11_skips_35 : decode bX11_skips 35 = .ok (.iconst 1, 1) := by decide +kernel
theorem dX11_skips_36 : decode bX11_skips 36 = .ok (.iadd, 1) := by decide +kernel
theorem dX11_skips_37 : decode bX11_skips 37 = .ok (.iaload, 1) := by decide +kernel
theorem dX11_skips_38 : decode bX11_skips 38 = .ok (.iastore, 1) := by decide +kernel
theorem dX11_skips_39 : decode bX11_skips 39 = .ok (.iinc 2 1, 3) := by decide +kernel
theorem dX11_skips_42 : decode bX11_skips 42 = .ok (.goto (-25), 3) := by decide +kernel
theorem dX11_skips_45 : decode bX11_skips 45 = .ok (.return_, 1) := by decide +kernel
theorem dX11_airOf_0 : decode bX11_airOf 0 = .ok (.aload_n 0, 1) := by decide +kernel
theorem dX11_airOf_1 : decode bX11_airOf 1 = .ok (.getfield 50, 3) := by decide +kernel
theorem dX11_airOf_4 : decode bX11_airOf 4 = .ok (.iload_n 1, 1) := by decide +kernel
theorem dX11_airOf_5 : decode bX11_airOf 5 = .ok (.iaload, 1) := by decide +kernel
theorem dX11_airOf_6 : decode bX11_airOf 6 = .ok (.istore_n 3, 1) := by decide +kernel
theorem dX11_airOf_7 : decode bX11_airOf 7 = .ok (.aload_n 0, 1) := by decide +kernel
theorem dX11_airOf_8 : decode bX11_airOf 8 = .ok (.getfield 249, 3) := by decide +kernel
theorem dX11_airOf_11 : decode bX11_airOf 11 = .ok (.iload_n 2, 1) := by decide +kernel
theorem dX11_airOf_12 : decode bX11_airOf 12 = .ok (.invokestatic 258, 3) := by decide +kernel
theorem dX11_airOf_15 : decode bX11_airOf 15 = .ok (.istore 4, 2) := by decide +kernel
theorem dX11_airOf_17 : decode bX11_airOf 17 = .ok (.iconst 0, 1) := by decide +kernel
theorem dX11_airOf_18 : decode bX11_airOf 18 = .ok (.istore 5, 2) := by decide +kernel
theorem dX11_airOf_20 : decode bX11_airOf 20 = .ok (.iload 5, 2) := by decide +kernel
theorem dX11_airOf_22 : decode bX11_airOf 22 = .ok (.aload_n 0, 1) := by decide +kernel
theorem dX11_airOf_23 : decode bX11_airOf 23 = .ok (.getfield 34, 3) := by decide +kernel
theorem dX11_airOf_26 : decode bX11_airOf 26 = .ok (.bipush 7, 2) := by decide +kernel
theorem dX11_airOf_28 : decode bX11_airOf 28 = .ok (.iaload, 1) := by decide +kernel
theorem dX11_airOf_29 : decode bX11_airOf 29 = .ok (.if_icmp .ge 129, 3) := by decide +kernel
theorem dX11_airOf_32 : decode bX11_airOf 32 = .ok (.aload_n 0, 1) := by decide +kernel
theorem dX11_airOf_33 : decode bX11_airOf 33 = .ok (.getfield 43, 3) := by decide +kernel
theorem dX11_airOf_36 : decode bX11_airOf 36 = .ok (.iconst 4, 1) := by decide +kernel
theorem dX11_airOf_37 : decode bX11_airOf 37 = .ok (.iload 5, 2) := by decide +kernel
theorem dX11_airOf_39 : decode bX11_airOf 39 = .ok (.imul, 1) := by decide +kernel
theorem dX11_airOf_40 : decode bX11_airOf 40 = .ok (.iconst 1, 1) := by decide +kernel
theorem dX11_airOf_41 : decode bX11_airOf 41 = .ok (.iadd, 1) := by decide +kernel
theorem dX11_airOf_42 : decode bX11_airOf 42 = .ok (.iaload, 1) := by decide +kernel
theorem dX11_airOf_43 : decode bX11_airOf 43 = .ok (.iload_n 1, 1) := by decide +kernel
theorem dX11_airOf_44 : decode bX11_airOf 44 = .ok (.aload_n 0, 1) := by decide +kernel
theorem dX11_airOf_45 : decode bX11_airOf 45 = .ok (.getfield 255, 3) := by decide +kernel
theorem dX11_airOf_48 : decode bX11_airOf 48 = .ok (.if_icmp .ge 7, 3) := by decide +kernel
theorem dX11_airOf_51 : decode bX11_airOf 51 = .ok (.iload_n 1, 1) := by decide +kernel
theorem dX11_airOf_52 : decode bX11_airOf 52 = .ok (.goto 6, 3) := by decide +kernel
theorem dX11_airOf_55 : decode bX11_airOf 55 = .ok (.iload_n 1, 1) := by decide +kernel
theorem dX11_airOf_56 : decode bX11_airOf 56 = .ok (.iconst 1, 1) := by decide +kernel
theorem dX11_airOf_57 : decode bX11_airOf 57 = .ok (.iadd, 1) := by decide +kernel
theorem dX11_airOf_58 : decode bX11_airOf 58 = .ok (.if_icmp .ne 7, 3) := by decide +kernel
theorem dX11_airOf_61 : decode bX11_airOf 61 = .ok (.iconst 1, 1) := by decide +kernel
theorem dX11_airOf_62 : decode bX11_airOf 62 = .ok (.goto 4, 3) := by decide +kernel
theorem dX11_airOf_65 : decode bX11_airOf 65 = .ok (.iconst 0, 1) := by decide +kernel
theorem dX11_airOf_66 : decode bX11_airOf 66 = .ok (.istore 6, 2) := by decide +kernel
theorem dX11_airOf_68 : decode bX11_airOf 68 = .ok (.aload_n 0, 1) := by decide +kernel
theorem dX11_airOf_69 : decode bX11_airOf 69 = .ok (.getfield 43, 3) := by decide +kernel
theorem dX11_airOf_72 : decode bX11_airOf 72 = .ok (.iconst 4, 1) := by decide +kernel
theorem dX11_airOf_73 : decode bX11_airOf 73 = .ok (.iload 5, 2) := by decide +kernel
theorem dX11_airOf_75 : decode bX11_airOf 75 = .ok (.imul, 1) := by decide +kernel
theorem dX11_airOf_76 : decode bX11_airOf 76 = .ok (.iaload, 1) := by decide +kernel
theorem dX11_airOf_77 : decode bX11_airOf 77 = .ok (.ifCond .ne 37, 3) := by decide +kernel
theorem dX11_airOf_80 : decode bX11_airOf 80 = .ok (.iload 6, 2) := by decide +kernel
theorem dX11_airOf_82 : decode bX11_airOf 82 = .ok (.ifCond .eq 32, 3) := by decide +kernel
theorem dX11_airOf_85 : decode bX11_airOf 85 = .ok (.aload_n 0, 1) := by decide +kernel
theorem dX11_airOf_86 : decode bX11_airOf 86 = .ok (.getfield 43, 3) := by decide +kernel
theorem dX11_airOf_89 : decode bX11_airOf 89 = .ok (.iconst 4, 1) := by decide +kernel
theorem dX11_airOf_90 : decode bX11_airOf 90 = .ok (.iload 5, 2) := by decide +kernel
theorem dX11_airOf_92 : decode bX11_airOf 92 = .ok (.imul, 1) := by decide +kernel
theorem dX11_airOf_93 : decode bX11_airOf 93 = .ok (.iconst 3, 1) := by decide +kernel
theorem dX11_airOf_94 : decode bX11_airOf 94 = .ok (.iadd, 1) := by decide +kernel
theorem dX11_airOf_95 : decode bX11_airOf 95 = .ok (.iaload, 1) := by decide +kernel
theorem dX11_airOf_96 : decode bX11_airOf 96 = .ok (.iload_n 2, 1) := by decide +kernel
theorem dX11_airOf_97 : decode bX11_airOf 97 = .ok (.if_icmp .gt 17, 3) := by decide +kernel
theorem dX11_airOf_100 : decode bX11_airOf 100 = .ok (.iload_n 3, 1) := by decide +kernel
theorem dX11_airOf_101 : decode bX11_airOf 101 = .ok (.aload_n 0, 1) := by decide +kernel
theorem dX11_airOf_102 : decode bX11_airOf 102 = .ok (.getfield 43, 3) := by decide +kernel
theorem dX11_airOf_105 : decode bX11_airOf 105 = .ok (.iconst 4, 1) := by decide +kernel
theorem dX11_airOf_106 : decode bX11_airOf 106 = .ok (.iload 5, 2) := by decide +kernel
theorem dX11_airOf_108 : decode bX11_airOf 108 = .ok (.imul, 1) := by decide +kernel
theorem dX11_airOf_109 : decode bX11_airOf 109 = .ok (.iconst 2, 1) := by decide +kernel
theorem dX11_airOf_110 : decode bX11_airOf 110 = .ok (.iadd, 1) := by decide +kernel
theorem dX11_airOf_111 : decode bX11_airOf 111 = .ok (.iaload, 1) := by decide +kernel
theorem dX11_airOf_112 : decode bX11_airOf 112 = .ok (.iadd, 1) := by decide +kernel
theorem dX11_airOf_113 : decode bX11_airOf 113 = .ok (.istore_n 3, 1) := by decide +kernel
theorem dX11_airOf_114 : decode bX11_airOf 114 = .ok (.iload 4, 2) := by decide +kernel
theorem dX11_airOf_116 : decode bX11_airOf 116 = .ok (.aload_n 0, 1) := by decide +kernel
theorem dX11_airOf_117 : decode bX11_airOf 117 = .ok (.getfield 43, 3) := by decide +kernel
theorem dX11_airOf_120 : decode bX11_airOf 120 = .ok (.iconst 4, 1) := by decide +kernel
theorem dX11_airOf_121 : decode bX11_airOf 121 = .ok (.iload 5, 2) := by decide +kernel
theorem dX11_airOf_123 : decode bX11_airOf 123 = .ok (.imul, 1) := by decide +kernel
theorem dX11_airOf_124 : decode bX11_airOf 124 = .ok (.iaload, 1) := by decide +kernel
theorem dX11_airOf_125 : decode bX11_airOf 125 = .ok (.iconst 1, 1) := by decide +kernel
theorem dX11_airOf_126 : decode bX11_airOf 126 = .ok (.if_icmp .ne 22, 3) := by decide +kernel
theorem dX11_airOf_129 : decode bX11_airOf 129 = .ok (.aload_n 0, 1) := by decide +kernel
theorem dX11_airOf_130 : decode bX11_airOf 130 = .ok (.getfield 43, 3) := by decide +kernel
theorem dX11_airOf_133 : decode bX11_airOf 133 = .ok (.iconst 4, 1) := by decide +kernel
theorem dX11_airOf_134 : decode bX11_airOf 134 = .ok (.iload 5, 2) := by decide +kernel
theorem dX11_airOf_136 : decode bX11_airOf 136 = .ok (.imul, 1) := by decide +kernel
theorem dX11_airOf_137 : decode bX11_airOf 137 = .ok (.iconst 3, 1) := by decide +kernel
theorem dX11_airOf_138 : decode bX11_airOf 138 = .ok (.iadd, 1) := by decide +kernel
theorem dX11_airOf_139 : decode bX11_airOf 139 = .ok (.iaload, 1) := by decide +kernel
theorem dX11_airOf_140 : decode bX11_airOf 140 = .ok (.iload_n 2, 1) := by decide +kernel
theorem dX11_airOf_141 : decode bX11_airOf 141 = .ok (.if_icmp .ne 7, 3) := by decide +kernel
theorem dX11_airOf_144 : decode bX11_airOf 144 = .ok (.iconst 1, 1) := by decide +kernel
theorem dX11_airOf_145 : decode bX11_airOf 145 = .ok (.goto 4, 3) := by decide +kernel
theorem dX11_airOf_148 : decode bX11_airOf 148 = .ok (.iconst 0, 1) := by decide +kernel
theorem dX11_airOf_149 : decode bX11_airOf 149 = .ok (.ior, 1) := by decide +kernel
theorem dX11_airOf_150 : decode bX11_airOf 150 = .ok (.istore 4, 2) := by decide +kernel
theorem dX11_airOf_152 : decode bX11_airOf 152 = .ok (.iinc 5 1, 3) := by decide +kernel
theorem dX11_airOf_155 : decode bX11_airOf 155 = .ok (.goto (-135), 3) := by decide +kernel
theorem dX11_airOf_158 : decode bX11_airOf 158 = .ok (.iload 4, 2) := by decide +kernel
theorem dX11_airOf_160 : decode bX11_airOf 160 = .ok (.ifCond .eq 14, 3) := by decide +kernel
theorem dX11_airOf_163 : decode bX11_airOf 163 = .ok (.iconst 0, 1) := by decide +kernel
theorem dX11_airOf_164 : decode bX11_airOf 164 = .ok (.iload_n 3, 1) := by decide +kernel
theorem dX11_airOf_165 : decode bX11_airOf 165 = .ok (.bipush 80, 2) := by decide +kernel
theorem dX11_airOf_167 : decode bX11_airOf 167 = .ok (.isub, 1) := by decide +kernel
theorem dX11_airOf_168 : decode bX11_airOf 168 = .ok (.invokestatic 262, 3) := by decide +kernel
theorem dX11_airOf_171 : decode bX11_airOf 171 = .ok (.goto 4, 3) := by decide +kernel
theorem dX11_airOf_174 : decode bX11_airOf 174 = .ok (.iload_n 3, 1) := by decide +kernel
theorem dX11_airOf_175 : decode bX11_airOf 175 = .ok (.ireturn, 1) := by decide +kernel
theorem dX11_comes_0 : decode bX11_comes 0 = .ok (.aload_n 0, 1) := by decide +kernel
theorem dX11_comes_1 : decode bX11_comes 1 = .ok (.getfield 40, 3) := by decide +kernel
theorem dX11_comes_4 : decode bX11_comes 4 = .ok (.iconst 4, 1) := by decide +kernel
theorem dX11_comes_5 : decode bX11_comes 5 = .ok (.iload_n 1, 1) := by decide +kernel
theorem dX11_comes_6 : decode bX11_comes 6 = .ok (.imul, 1) := by decide +kernel
theorem dX11_comes_7 : decode bX11_comes 7 = .ok (.iconst 3, 1) := by decide +kernel
theorem dX11_comes_8 : decode bX11_comes 8 = .ok (.iadd, 1) := by decide +kernel
theorem dX11_comes_9 : decode bX11_comes 9 = .ok (.iaload, 1) := by decide +kernel
theorem dX11_comes_10 : decode bX11_comes 10 = .ok (.ireturn, 1) := by decide +kernel
theorem dX11_whereOf_0 : decode bX11_whereOf 0 = .ok (.iload_n 2, 1) := by decide +kernel
theorem dX11_whereOf_1 : decode bX11_whereOf 1 = .ok (.aload_n 0, 1) := by decide +kernel
theorem dX11_whereOf_2 : decode bX11_whereOf 2 = .ok (.iload_n 1, 1) := by decide +kernel
theorem dX11_whereOf_3 : decode bX11_whereOf 3 = .ok (.invokevirtual 265, 3) := by decide +kernel
theorem dX11_whereOf_6 : decode bX11_whereOf 6 = .ok (.if_icmp .ge 5, 3) := by decide +kernel
theorem dX11_whereOf_9 : decode bX11_whereOf 9 = .ok (.iconst (-1), 1) := by decide +kernel
theorem dX11_whereOf_10 : decode bX11_whereOf 10 = .ok (.ireturn, 1) := by decide +kernel
theorem dX11_whereOf_11 : decode bX11_whereOf 11 = .ok (.iload_n 2, 1) := by decide +kernel
theorem dX11_whereOf_12 : decode bX11_whereOf 12 = .ok (.aload_n 0, 1) := by decide +kernel
theorem dX11_whereOf_13 : decode bX11_whereOf 13 = .ok (.iload_n 1, 1) := by decide +kernel
theorem dX11_whereOf_14 : decode bX11_whereOf 14 = .ok (.invokevirtual 265, 3) := by decide +kernel
theorem dX11_whereOf_17 : decode bX11_whereOf 17 = .ok (.isub, 1) := by decide +kernel
theorem dX11_whereOf_18 : decode bX11_whereOf 18 = .ok (.aload_n 0, 1) := by decide +kernel
theorem dX11_whereOf_19 : decode bX11_whereOf 19 = .ok (.getfield 246, 3) := by decide +kernel
theorem dX11_whereOf_22 : decode bX11_whereOf 22 = .ok (.idiv, 1) := by decide +kernel
theorem dX11_whereOf_23 : decode bX11_whereOf 23 = .ok (.istore_n 3, 1) := by decide +kernel
theorem dX11_whereOf_24 : decode bX11_whereOf 24 = .ok (.iload_n 3, 1) := by decide +kernel
theorem dX11_whereOf_25 : decode bX11_whereOf 25 = .ok (.aload_n 0, 1) := by decide +kernel
theorem dX11_whereOf_26 : decode bX11_whereOf 26 = .ok (.getfield 252, 3) := by decide +kernel
theorem dX11_whereOf_29 : decode bX11_whereOf 29 = .ok (.if_icmp .ge 7, 3) := by decide +kernel
theorem dX11_whereOf_32 : decode bX11_whereOf 32 = .ok (.iload_n 3, 1) := by decide +kernel
theorem dX11_whereOf_33 : decode bX11_whereOf 33 = .ok (.goto 5, 3) := by decide +kernel
theorem dX11_whereOf_36 : decode bX11_whereOf 36 = .ok (.bipush 10, 2) := by decide +kernel
theorem dX11_whereOf_38 : decode bX11_whereOf 38 = .ok (.ireturn, 1) := by decide +kernel
theorem dX11_skinOf_0 : decode bX11_skinOf 0 = .ok (.aload_n 0, 1) := by decide +kernel
theorem dX11_skinOf_1 : decode bX11_skinOf 1 = .ok (.getfield 59, 3) := by decide +kernel
theorem dX11_skinOf_4 : decode bX11_skinOf 4 = .ok (.bipush 6, 2) := by decide +kernel
theorem dX11_skinOf_6 : decode bX11_skinOf 6 = .ok (.iload_n 2, 1) := by decide +kernel
theorem dX11_skinOf_7 : decode bX11_skinOf 7 = .ok (.imul, 1) := by decide +kernel
theorem dX11_skinOf_8 : decode bX11_skinOf 8 = .ok (.iload_n 1, 1) := by decide +kernel
theorem dX11_skinOf_9 : decode bX11_skinOf 9 = .ok (.iadd, 1) := by decide +kernel
theorem dX11_skinOf_10 : decode bX11_skinOf 10 = .ok (.iaload, 1) := by decide +kernel
theorem dX11_skinOf_11 : decode bX11_skinOf 11 = .ok (.ireturn, 1) := by decide +kernel
theorem dX11_coreOf_0 : decode bX11_coreOf 0 = .ok (.aload_n 0, 1) := by decide +kernel
theorem dX11_coreOf_1 : decode bX11_coreOf 1 = .ok (.getfield 62, 3) := by decide +kernel
theorem dX11_coreOf_4 : decode bX11_coreOf 4 = .ok (.bipush 6, 2) := by decide +kernel
theorem dX11_coreOf_6 : decode bX11_coreOf 6 = .ok (.iload_n 2, 1) := by decide +kernel
theorem dX11_coreOf_7 : decode bX11_coreOf 7 = .ok (.imul, 1) := by decide +kernel
theorem dX11_coreOf_8 : decode bX11_coreOf 8 = .ok (.iload_n 1, 1) := by decide +kernel
theorem dX11_coreOf_9 : decode bX11_coreOf 9 = .ok (.iadd, 1) := by decide +kernel
theorem dX11_coreOf_10 : decode bX11_coreOf 10 = .ok (.iaload, 1) := by decide +kernel
theorem dX11_coreOf_11 : decode bX11_coreOf 11 = .ok (.ireturn, 1) := by decide +kernel
theorem dX11_strainOf_0 : decode bX11_strainOf 0 = .ok (.aload_n 0, 1) := by decide +kernel
theorem dX11_strainOf_1 : decode bX11_strainOf 1 = .ok (.iload_n 1, 1) := by decide +kernel
theorem dX11_strainOf_2 : decode bX11_strainOf 2 = .ok (.iload_n 2, 1) := by decide +kernel
theorem dX11_strainOf_3 : decode bX11_strainOf 3 = .ok (.invokevirtual 268, 3) := by decide +kernel
theorem dX11_strainOf_6 : decode bX11_strainOf 6 = .ok (.aload_n 0, 1) := by decide +kernel
theorem dX11_strainOf_7 : decode bX11_strainOf 7 = .ok (.iload_n 1, 1) := by decide +kernel
theorem dX11_strainOf_8 : decode bX11_strainOf 8 = .ok (.iload_n 2, 1) := by decide +kernel
theorem dX11_strainOf_9 : decode bX11_strainOf 9 = .ok (.invokevirtual 271, 3) := by decide +kernel
theorem dX11_strainOf_12 : decode bX11_strainOf 12 = .ok (.invokestatic 274, 3) := by decide +kernel
theorem dX11_strainOf_15 : decode bX11_strainOf 15 = .ok (.ireturn, 1) := by decide +kernel
theorem dX11_pullOf_0 : decode bX11_pullOf 0 = .ok (.aload_n 0, 1) := by decide +kernel
theorem dX11_pullOf_1 : decode bX11_pullOf 1 = .ok (.iload_n 3, 1) := by decide +kernel
theorem dX11_pullOf_2 : decode bX11_pullOf 2 = .ok (.iload_n 2, 1) := by decide +kernel
theorem dX11_pullOf_3 : decode bX11_pullOf 3 = .ok (.invokevirtual 277, 3) := by decide +kernel
theorem dX11_pullOf_6 : decode bX11_pullOf 6 = .ok (.istore 4, 2) := by decide +kernel
theorem dX11_pullOf_8 : decode bX11_pullOf 8 = .ok (.aload_n 0, 1) := by decide +kernel
theorem dX11_pullOf_9 : decode bX11_pullOf 9 = .ok (.getfield 243, 3) := by decide +kernel
theorem dX11_pullOf_12 : decode bX11_pullOf 12 = .ok (.iconst 2, 1) := by decide +kernel
theorem dX11_pullOf_13 : decode bX11_pullOf 13 = .ok (.if_icmp .ne 66, 3) := by decide +kernel
theorem dX11_pullOf_16 : decode bX11_pullOf 16 = .ok (.iconst 1, 1) := by decide +kernel
theorem dX11_pullOf_17 : decode bX11_pullOf 17 = .ok (.istore 5, 2) := by decide +kernel
theorem dX11_pullOf_19 : decode bX11_pullOf 19 = .ok (.iconst 0, 1) := by decide +kernel
theorem dX11_pullOf_20 : decode bX11_pullOf 20 = .ok (.istore 6, 2) := by decide +kernel
theorem dX11_pullOf_22 : decode bX11_pullOf 22 = .ok (.iload 6, 2) := by decide +kernel
theorem dX11_pullOf_24 : decode bX11_pullOf 24 = .ok (.aload_n 0, 1) := by decide +kernel
theorem dX11_pullOf_25 : decode bX11_pullOf 25 = .ok (.invokevirtual 227, 3) := by decide +kernel
theorem dX11_pullOf_28 : decode bX11_pullOf 28 = .ok (.if_icmp .ge 44, 3) := by decide +kernel
theorem dX11_pullOf_31 : decode bX11_pullOf 31 = .ok (.iload 6, 2) := by decide +kernel
theorem dX11_pullOf_33 : decode bX11_pullOf 33 = .ok (.iload_n 1, 1) := by decide +kernel
theorem dX11_pullOf_34 : decode bX11_pullOf 34 = .ok (.if_icmp .eq 32, 3) := by decide +kernel
theorem dX11_pullOf_37 : decode bX11_pullOf 37 = .ok (.aload_n 0, 1) := by decide +kernel
theorem dX11_pullOf_38 : decode bX11_pullOf 38 = .ok (.iload 6, 2) := by decide +kernel
theorem dX11_pullOf_40 : decode bX11_pullOf 40 = .ok (.iload_n 2, 1) := by decide +kernel
theorem dX11_pullOf_41 : decode bX11_pullOf 41 = .ok (.invokevirtual 280, 3) := by decide +kernel
theorem dX11_pullOf_44 : decode bX11_pullOf 44 = .ok (.iload_n 3, 1) := by decide +kernel
theorem dX11_pullOf_45 : decode bX11_pullOf 45 = .ok (.if_icmp .eq 6, 3) := by decide +kernel
theorem dX11_pullOf_48 : decode bX11_pullOf 48 = .ok (.goto 18, 3) := by decide +kernel
theorem dX11_pullOf_51 : decode bX11_pullOf 51 = .ok (.iload 4, 2) := by decide +kernel
theorem dX11_pullOf_53 : decode bX11_pullOf 53 = .ok (.aload_n 0, 1) := by decide +kernel
theorem dX11_pullOf_54 : decode bX11_pullOf 54 = .ok (.iload 6, 2) := by decide +kernel
theorem dX11_pullOf_56 : decode bX11_pullOf 56 = .ok (.iload_n 2, 1) := by decide +kernel
theorem dX11_pullOf_57 : decode bX11_pullOf 57 = .ok (.invokevirtual 268, 3) := by decide +kernel
theorem dX11_pullOf_60 : decode bX11_pullOf 60 = .ok (.iadd, 1) := by decide +kernel
theorem dX11_pullOf_61 : decode bX11_pullOf 61 = .ok (.istore 4, 2) := by decide +kernel
theorem dX11_pullOf_63 : decode bX11_pullOf 63 = .ok (.iinc 5 1, 3) := by decide +kernel
theorem dX11_pullOf_66 : decode bX11_pullOf 66 = .ok (.iinc 6 1, 3) := by decide +kernel
theorem dX11_pullOf_69 : decode bX11_pullOf 69 = .ok (.goto (-47), 3) := by decide +kernel
theorem dX11_pullOf_72 : decode bX11_pullOf 72 = .ok (.iload 4, 2) := by decide +kernel
theorem dX11_pullOf_74 : decode bX11_pullOf 74 = .ok (.iload 5, 2) := by decide +kernel
theorem dX11_pullOf_76 : decode bX11_pullOf 76 = .ok (.idiv, 1) := by decide +kernel
theorem dX11_pullOf_77 : decode bX11_pullOf 77 = .ok (.istore 4, 2) := by decide +kernel
theorem dX11_pullOf_79 : decode bX11_pullOf 79 = .ok (.iload 4, 2) := by decide +kernel
theorem dX11_pullOf_81 : decode bX11_pullOf 81 = .ok (.aload_n 0, 1) := by decide +kernel
theorem dX11_pullOf_82 : decode bX11_pullOf 82 = .ok (.iload_n 1, 1) := by decide +kernel
theorem dX11_pullOf_83 : decode bX11_pullOf 83 = .ok (.iload_n 2, 1) := by decide +kernel
theorem dX11_pullOf_84 : decode bX11_pullOf 84 = .ok (.invokevirtual 268, 3) := by decide +kernel
theorem dX11_pullOf_87 : decode bX11_pullOf 87 = .ok (.isub, 1) := by decide +kernel
theorem dX11_pullOf_88 : decode bX11_pullOf 88 = .ok (.istore 5, 2) := by decide +kernel
theorem dX11_pullOf_90 : decode bX11_pullOf 90 = .ok (.aload_n 0, 1) := by decide +kernel
theorem dX11_pullOf_91 : decode bX11_pullOf 91 = .ok (.getfield 243, 3) := by decide +kernel
theorem dX11_pullOf_94 : decode bX11_pullOf 94 = .ok (.iconst 3, 1) := by decide +kernel
theorem dX11_pullOf_95 : decode bX11_pullOf 95 = .ok (.if_icmp .ne 8, 3) := by decide +kernel
theorem dX11_pullOf_98 : decode bX11_pullOf 98 = .ok (.iload 5, 2) := by decide +kernel
theorem dX11_pullOf_100 : decode bX11_pullOf 100 = .ok (.iconst 3, 1) := by decide +kernel
theorem dX11_pullOf_101 : decode bX11_pullOf 101 = .ok (.idiv, 1) := by decide +kernel
theorem dX11_pullOf_102 : decode bX11_pullOf 102 = .ok (.ireturn, 1) := by decide +kernel
theorem dX11_pullOf_103 : decode bX11_pullOf 103 = .ok (.iload 5, 2) := by decide +kernel
theorem dX11_pullOf_105 : decode bX11_pullOf 105 = .ok (.iconst 2, 1) := by decide +kernel
theorem dX11_pullOf_106 : decode bX11_pullOf 106 = .ok (.idiv, 1) := by decide +kernel
theorem dX11_pullOf_107 : decode bX11_pullOf 107 = .ok (.istore 5, 2) := by decide +kernel
theorem dX11_pullOf_109 : decode bX11_pullOf 109 = .ok (.aload_n 0, 1) := by decide +kernel
theorem dX11_pullOf_110 : decode bX11_pullOf 110 = .ok (.getfield 243, 3) := by decide +kernel
theorem dX11_pullOf_113 : decode bX11_pullOf 113 = .ok (.iconst 1, 1) := by decide +kernel
theorem dX11_pullOf_114 : decode bX11_pullOf 114 = .ok (.if_icmp .ne 18, 3) := by decide +kernel
theorem dX11_pullOf_117 : decode bX11_pullOf 117 = .ok (.bipush 60, 2) := by decide +kernel
theorem dX11_pullOf_119 : decode bX11_pullOf 119 = .ok (.bipush (-60), 2) := by decide +kernel
theorem dX11_pullOf_121 : decode bX11_pullOf 121 = .ok (.iload 5, 2) := by decide +kernel
theorem dX11_pullOf_123 : decode bX11_pullOf 123 = .ok (.invokestatic 262, 3) := by decide +kernel
theorem dX11_pullOf_126 : decode bX11_pullOf 126 = .ok (.invokestatic 283, 3) := by decide +kernel
theorem dX11_pullOf_129 : decode bX11_pullOf 129 = .ok (.goto 5, 3) := by decide +kernel
theorem dX11_pullOf_132 : decode bX11_pullOf 132 = .ok (.iload 5, 2) := by decide +kernel
theorem dX11_pullOf_134 : decode bX11_pullOf 134 = .ok (.ireturn, 1) := by decide +kernel
theorem dX11_goesOn_0 : decode bX11_goesOn 0 = .ok (.bipush 6, 2) := by decide +kernel
theorem dX11_goesOn_2 : decode bX11_goesOn 2 = .ok (.iload_n 2, 1) := by decide +kernel
theorem dX11_goesOn_3 : decode bX11_goesOn 3 = .ok (.imul, 1) := by decide +kernel
theorem dX11_goesOn_4 : decode bX11_goesOn 4 = .ok (.bipush 6, 2) := by decide +kernel
theorem dX11_goesOn_6 : decode bX11_goesOn 6 = .ok (.iadd, 1) := by decide +kernel
theorem dX11_goesOn_7 : decode bX11_goesOn 7 = .ok (.iload_n 1, 1) := by decide +kernel
theorem dX11_goesOn_8 : decode bX11_goesOn 8 = .ok (.iadd, 1) := by decide +kernel
theorem dX11_goesOn_9 : decode bX11_goesOn 9 = .ok (.istore_n 3, 1) := by decide +kernel
theorem dX11_goesOn_10 : decode bX11_goesOn 10 = .ok (.aload_n 0, 1) := by decide +kernel
theorem dX11_goesOn_11 : decode bX11_goesOn 11 = .ok (.getfield 59, 3) := by decide +kernel
theorem dX11_goesOn_14 : decode bX11_goesOn 14 = .ok (.iload_n 3, 1) := by decide +kernel
theorem dX11_goesOn_15 : decode bX11_goesOn 15 = .ok (.aload_n 0, 1) := by decide +kernel
theorem dX11_goesOn_16 : decode bX11_goesOn 16 = .ok (.iload_n 1, 1) := by decide +kernel
theorem dX11_goesOn_17 : decode bX11_goesOn 17 = .ok (.iload_n 2, 1) := by decide +kernel
theorem dX11_goesOn_18 : decode bX11_goesOn 18 = .ok (.invokevirtual 268, 3) := by decide +kernel
theorem dX11_goesOn_21 : decode bX11_goesOn 21 = .ok (.iastore, 1) := by decide +kernel
theorem dX11_goesOn_22 : decode bX11_goesOn 22 = .ok (.aload_n 0, 1) := by decide +kernel
theorem dX11_goesOn_23 : decode bX11_goesOn 23 = .ok (.getfield 62, 3) := by decide +kernel
theorem dX11_goesOn_26 : decode bX11_goesOn 26 = .ok (.iload_n 3, 1) := by decide +kernel
theorem dX11_goesOn_27 : decode bX11_goesOn 27 = .ok (.aload_n 0, 1) := by decide +kernel
theorem dX11_goesOn_28 : decode bX11_goesOn 28 = .ok (.iload_n 1, 1) := by decide +kernel
theorem dX11_goesOn_29 : decode bX11_goesOn 29 = .ok (.iload_n 2, 1) := by decide +kernel
theorem dX11_goesOn_30 : decode bX11_goesOn 30 = .ok (.invokevirtual 271, 3) := by decide +kernel
theorem dX11_goesOn_33 : decode bX11_goesOn 33 = .ok (.iastore, 1) := by decide +kernel
theorem dX11_goesOn_34 : decode bX11_goesOn 34 = .ok (.aload_n 0, 1) := by decide +kernel
theorem dX11_goesOn_35 : decode bX11_goesOn 35 = .ok (.iload_n 1, 1) := by decide +kernel
theorem dX11_goesOn_36 : decode bX11_goesOn 36 = .ok (.iload_n 2, 1) := by decide +kernel
theorem dX11_goesOn_37 : decode bX11_goesOn 37 = .ok (.invokevirtual 280, 3) := by decide +kernel
theorem dX11_goesOn_40 : decode bX11_goesOn 40 = .ok (.istore 4, 2) := by decide +kernel
theorem dX11_goesOn_42 : decode bX11_goesOn 42 = .ok (.iload 4, 2) := by decide +kernel
theorem dX11_goesOn_44 : decode bX11_goesOn 44 = .ok (.iconst (-1), 1) := by decide +kernel
theorem dX11_goesOn_45 : decode bX11_goesOn 45 = .ok (.if_icmp .eq 20, 3) := by decide +kernel
theorem dX11_goesOn_48 : decode bX11_goesOn 48 = .ok (.iload 4, 2) := by decide +kernel
theorem dX11_goesOn_50 : decode bX11_goesOn 50 = .ok (.bipush 10, 2) := by decide +kernel
theorem dX11_goesOn_52 : decode bX11_goesOn 52 = .ok (.if_icmp .eq 13, 3) := by decide +kernel
theorem dX11_goesOn_55 : decode bX11_goesOn 55 = .ok (.aload_n 0, 1) := by decide +kernel
theorem dX11_goesOn_56 : decode bX11_goesOn 56 = .ok (.getfield 71, 3) := by decide +kernel
theorem dX11_goesOn_59 : decode bX11_goesOn 59 = .ok (.iload_n 1, 1) := by decide +kernel
theorem dX11_goesOn_60 : decode bX11_goesOn 60 = .ok (.iaload, 1) := by decide +kernel
theorem dX11_goesOn_61 : decode bX11_goesOn 61 = .ok (.iconst (-1), 1) := by decide +kernel
theorem dX11_goesOn_62 : decode bX11_goesOn 62 = .ok (.if_icmp .eq 4, 3) := by decide +kernel
theorem dX11_goesOn_65 : decode bX11_goesOn 65 = .ok (.return_, 1) := by decide +kernel
theorem dX11_goesOn_66 : decode bX11_goesOn 66 = .ok (.aload_n 0, 1) := by decide +kernel
theorem dX11_goesOn_67 : decode bX11_goesOn 67 = .ok (.getfield 59, 3) := by decide +kernel
theorem dX11_goesOn_70 : decode bX11_goesOn 70 = .ok (.iload_n 3, 1) := by decide +kernel
theorem dX11_goesOn_71 : decode bX11_goesOn 71 = .ok (.dup2, 1) := by decide +kernel
theorem dX11_goesOn_72 : decode bX11_goesOn 72 = .ok (.iaload, 1) := by decide +kernel
theorem dX11_goesOn_73 : decode bX11_goesOn 73 = .ok (.aload_n 0, 1) := by decide +kernel
theorem dX11_goesOn_74 : decode bX11_goesOn 74 = .ok (.iload_n 1, 1) := by decide +kernel
theorem dX11_goesOn_75 : decode bX11_goesOn 75 = .ok (.iload_n 2, 1) := by decide +kernel
theorem dX11_goesOn_76 : decode bX11_goesOn 76 = .ok (.iload 4, 2) := by decide +kernel
theorem dX11_goesOn_78 : decode bX11_goesOn 78 = .ok (.invokevirtual 286, 3) := by decide +kernel
theorem dX11_goesOn_81 : decode bX11_goesOn 81 = .ok (.iadd, 1) := by decide +kernel
theorem dX11_goesOn_82 : decode bX11_goesOn 82 = .ok (.iastore, 1) := by decide +kernel
theorem dX11_goesOn_83 : decode bX11_goesOn 83 = .ok (.aload_n 0, 1) := by decide +kernel
theorem dX11_goesOn_84 : decode bX11_goesOn 84 = .ok (.getfield 62, 3) := by decide +kernel
theorem dX11_goesOn_87 : decode bX11_goesOn 87 = .ok (.iload_n 3, 1) := by decide +kernel
theorem dX11_goesOn_88 : decode bX11_goesOn 88 = .ok (.dup2, 1) := by decide +kernel
theorem dX11_goesOn_89 : decode bX11_goesOn 89 = .ok (.iaload, 1) := by decide +kernel
theorem dX11_goesOn_90 : decode bX11_goesOn 90 = .ok (.aload_n 0, 1) := by decide +kernel
theorem dX11_goesOn_91 : decode bX11_goesOn 91 = .ok (.getfield 59, 3) := by decide +kernel
theorem dX11_goesOn_94 : decode bX11_goesOn 94 = .ok (.iload_n 3, 1) := by decide +kernel
theorem dX11_goesOn_95 : decode bX11_goesOn 95 = .ok (.iaload, 1) := by decide +kernel
theorem dX11_goesOn_96 : decode bX11_goesOn 96 = .ok (.aload_n 0, 1) := by decide +kernel
theorem dX11_goesOn_97 : decode bX11_goesOn 97 = .ok (.getfield 62, 3) := by decide +kernel
theorem dX11_goesOn_100 : decode bX11_goesOn 100 = .ok (.iload_n 3, 1) := by decide +kernel
theorem dX11_goesOn_101 : decode bX11_goesOn 101 = .ok (.iaload, 1) := by decide +kernel
theorem dX11_goesOn_102 : decode bX11_goesOn 102 = .ok (.isub, 1) := by decide +kernel
theorem dX11_goesOn_103 : decode bX11_goesOn 103 = .ok (.aload_n 0, 1) := by decide +kernel
theorem dX11_goesOn_104 : decode bX11_goesOn 104 = .ok (.getfield 53, 3) := by decide +kernel
theorem dX11_goesOn_107 : decode bX11_goesOn 107 = .ok (.iload_n 1, 1) := by decide +kernel
theorem dX11_goesOn_108 : decode bX11_goesOn 108 = .ok (.iaload, 1) := by decide +kernel
theorem dX11_goesOn_109 : decode bX11_goesOn 109 = .ok (.idiv, 1) := by decide +kernel
theorem dX11_goesOn_110 : decode bX11_goesOn 110 = .ok (.iadd, 1) := by decide +kernel
theorem dX11_goesOn_111 : decode bX11_goesOn 111 = .ok (.iastore, 1) := by decide +kernel
theorem dX11_goesOn_112 : decode bX11_goesOn 112 = .ok (.aload_n 0, 1) := by decide +kernel
theorem dX11_goesOn_113 : decode bX11_goesOn 113 = .ok (.iload_n 1, 1) := by decide +kernel
theorem dX11_goesOn_114 : decode bX11_goesOn 114 = .ok (.iload_n 2, 1) := by decide +kernel
theorem dX11_goesOn_115 : decode bX11_goesOn 115 = .ok (.invokevirtual 271, 3) := by decide +kernel
theorem dX11_goesOn_118 : decode bX11_goesOn 118 = .ok (.aload_n 0, 1) := by decide +kernel
theorem dX11_goesOn_119 : decode bX11_goesOn 119 = .ok (.getfield 34, 3) := by decide +kernel
theorem dX11_goesOn_122 : decode bX11_goesOn 122 = .ok (.iconst 4, 1) := by decide +kernel
theorem dX11_goesOn_123 : decode bX11_goesOn 123 = .ok (.iaload, 1) := by decide +kernel
theorem dX11_goesOn_124 : decode bX11_goesOn 124 = .ok (.if_icmp .lt 41, 3) := by decide +kernel
theorem dX11_goesOn_127 : decode bX11_goesOn 127 = .ok (.aload_n 0, 1) := by decide +kernel
theorem dX11_goesOn_128 : decode bX11_goesOn 128 = .ok (.getfield 62, 3) := by decide +kernel
theorem dX11_goesOn_131 : decode bX11_goesOn 131 = .ok (.iload_n 3, 1) := by decide +kernel
theorem dX11_goesOn_132 : decode bX11_goesOn 132 = .ok (.iaload, 1) := by decide +kernel
theorem dX11_goesOn_133 : decode bX11_goesOn 133 = .ok (.aload_n 0, 1) := by decide +kernel
theorem dX11_goesOn_134 : decode bX11_goesOn 134 = .ok (.getfield 34, 3) := by decide +kernel
theorem dX11_goesOn_137 : decode bX11_goesOn 137 = .ok (.iconst 4, 1) := by decide +kernel
theorem dX11_goesOn_138 : decode bX11_goesOn 138 = .ok (.iaload, 1) := by decide +kernel
theorem dX11_goesOn_139 : decode bX11_goesOn 139 = .ok (.if_icmp .ge 26, 3) := by decide +kernel
theorem dX11_goesOn_142 : decode bX11_goesOn 142 = .ok (.aload_n 0, 1) := by decide +kernel
theorem dX11_goesOn_143 : decode bX11_goesOn 143 = .ok (.getfield 65, 3) := by decide +kernel
theorem dX11_goesOn_146 : decode bX11_goesOn 146 = .ok (.iload_n 1, 1) := by decide +kernel
theorem dX11_goesOn_147 : decode bX11_goesOn 147 = .ok (.aload_n 0, 1) := by decide +kernel
theorem dX11_goesOn_148 : decode bX11_goesOn 148 = .ok (.iload_n 1, 1) := by decide +kernel
theorem dX11_goesOn_149 : decode bX11_goesOn 149 = .ok (.iload_n 2, 1) := by decide +kernel
theorem dX11_goesOn_150 : decode bX11_goesOn 150 = .ok (.iconst 1, 1) := by decide +kernel
theorem dX11_goesOn_151 : decode bX11_goesOn 151 = .ok (.iadd, 1) := by decide +kernel
theorem dX11_goesOn_152 : decode bX11_goesOn 152 = .ok (.invokevirtual 290, 3) := by decide +kernel
theorem dX11_goesOn_155 : decode bX11_goesOn 155 = .ok (.iastore, 1) := by decide +kernel
theorem dX11_goesOn_156 : decode bX11_goesOn 156 = .ok (.aload_n 0, 1) := by decide +kernel
theorem dX11_goesOn_157 : decode bX11_goesOn 157 = .ok (.getfield 68, 3) := by decide +kernel
theorem dX11_goesOn_160 : decode bX11_goesOn 160 = .ok (.iload_n 1, 1) := by decide +kernel
theorem dX11_goesOn_161 : decode bX11_goesOn 161 = .ok (.iload_n 2, 1) := by decide +kernel
theorem dX11_goesOn_162 : decode bX11_goesOn 162 = .ok (.iconst 1, 1) := by decide +kernel
theorem dX11_goesOn_163 : decode bX11_goesOn 163 = .ok (.iadd, 1) := by decide +kernel
theorem dX11_goesOn_164 : decode bX11_goesOn 164 = .ok (.iastore, 1) := by decide +kernel
theorem dX11_goesOn_165 : decode bX11_goesOn 165 = .ok (.aload_n 0, 1) := by decide +kernel
theorem dX11_goesOn_166 : decode bX11_goesOn 166 = .ok (.iload_n 1, 1) := by decide +kernel
theorem dX11_goesOn_167 : decode bX11_goesOn 167 = .ok (.iload_n 2, 1) := by decide +kernel
theorem dX11_goesOn_168 : decode bX11_goesOn 168 = .ok (.iconst 1, 1) := by decide +kernel
theorem dX11_goesOn_169 : decode bX11_goesOn 169 = .ok (.iadd, 1) := by decide +kernel
theorem dX11_goesOn_170 : decode bX11_goesOn 170 = .ok (.invokevirtual 280, 3) := by decide +kernel
theorem dX11_goesOn_173 : decode bX11_goesOn 173 = .ok (.bipush 10, 2) := by decide +kernel
theorem dX11_goesOn_175 : decode bX11_goesOn 175 = .ok (.if_icmp .ne 34, 3) := by decide +kernel
theorem dX11_goesOn_178 : decode bX11_goesOn 178 = .ok (.aload_n 0, 1) := by decide +kernel
theorem dX11_goesOn_179 : decode bX11_goesOn 179 = .ok (.getfield 65, 3) := by decide +kernel
theorem dX11_goesOn_182 : decode bX11_goesOn 182 = .ok (.iload_n 1, 1) := by decide +kernel
theorem dX11_goesOn_183 : decode bX11_goesOn 183 = .ok (.iaload, 1) := by decide +kernel
theorem dX11_goesOn_184 : decode bX11_goesOn 184 = .ok (.iconst (-1), 1) := by decide +kernel
theorem dX11_goesOn_185 : decode bX11_goesOn 185 = .ok (.if_icmp .eq 24, 3) := by decide +kernel
theorem dX11_goesOn_188 : decode bX11_goesOn 188 = .ok (.aload_n 0, 1) := by decide +kernel
theorem dX11_goesOn_189 : decode bX11_goesOn 189 = .ok (.getfield 65, 3) := by decide +kernel
theorem dX11_goesOn_192 : decode bX11_goesOn 192 = .ok (.iload_n 1, 1) := by decide +kernel
theorem dX11_goesOn_193 : decode bX11_goesOn 193 = .ok (.iaload, 1) := by decide +kernel
theorem dX11_goesOn_194 : decode bX11_goesOn 194 = .ok (.aload_n 0, 1) := by decide +kernel
theorem dX11_goesOn_195 : decode bX11_goesOn 195 = .ok (.getfield 56, 3) := by decide +kernel
theorem dX11_goesOn_198 : decode bX11_goesOn 198 = .ok (.iload_n 1, 1) := by decide +kernel
theorem dX11_goesOn_199 : decode bX11_goesOn 199 = .ok (.iaload, 1) := by decide +kernel
theorem dX11_goesOn_200 : decode bX11_goesOn 200 = .ok (.iconst 2, 1) := by decide +kernel
theorem dX11_goesOn_201 : decode bX11_goesOn 201 = .ok (.idiv, 1) := by decide +kernel
theorem dX11_goesOn_202 : decode bX11_goesOn 202 = .ok (.if_icmp .le 7, 3) := by decide +kernel
theorem dX11_goesOn_205 : decode bX11_goesOn 205 = .ok (.iconst 1, 1) := by decide +kernel
theorem dX11_goesOn_206 : decode bX11_goesOn 206 = .ok (.goto 4, 3) := by decide +kernel
theorem dX11_goesOn_209 : decode bX11_goesOn 209 = .ok (.iconst 0, 1) := by decide +kernel
theorem dX11_goesOn_210 : decode bX11_goesOn 210 = .ok (.istore 5, 2) := by decide +kernel
theorem dX11_goesOn_212 : decode bX11_goesOn 212 = .ok (.aload_n 0, 1) := by decide +kernel
theorem dX11_goesOn_213 : decode bX11_goesOn 213 = .ok (.iload_n 1, 1) := by decide +kernel
theorem dX11_goesOn_214 : decode bX11_goesOn 214 = .ok (.iload_n 2, 1) := by decide +kernel
theorem dX11_goesOn_215 : decode bX11_goesOn 215 = .ok (.iconst 1, 1) := by decide +kernel
theorem dX11_goesOn_216 : decode bX11_goesOn 216 = .ok (.iadd, 1) := by decide +kernel
theorem dX11_goesOn_217 : decode bX11_goesOn 217 = .ok (.invokevirtual 290, 3) := by decide +kernel
theorem dX11_goesOn_220 : decode bX11_goesOn 220 = .ok (.aload_n 0, 1) := by decide +kernel
theorem dX11_goesOn_221 : decode bX11_goesOn 221 = .ok (.getfield 56, 3) := by decide +kernel
theorem dX11_goesOn_224 : decode bX11_goesOn 224 = .ok (.iload_n 1, 1) := by decide +kernel
theorem dX11_goesOn_225 : decode bX11_goesOn 225 = .ok (.iaload, 1) := by decide +kernel
theorem dX11_goesOn_226 : decode bX11_goesOn 226 = .ok (.if_icmp .le 7, 3) := by decide +kernel
theorem dX11_goesOn_229 : decode bX11_goesOn 229 = .ok (.iconst 1, 1) := by decide +kernel
theorem dX11_goesOn_230 : decode bX11_goesOn 230 = .ok (.goto 4, 3) := by decide +kernel
theorem dX11_goesOn_233 : decode bX11_goesOn 233 = .ok (.iconst 0, 1) := by decide +kernel
theorem dX11_goesOn_234 : decode bX11_goesOn 234 = .ok (.istore 6, 2) := by decide +kernel
theorem dX11_goesOn_236 : decode bX11_goesOn 236 = .ok (.iload 6, 2) := by decide +kernel
theorem dX11_goesOn_238 : decode bX11_goesOn 238 = .ok (.ifCond .ne 9, 3) := by decide +kernel
theorem dX11_goesOn_241 : decode bX11_goesOn 241 = .ok (.iload 5, 2) := by decide +kernel
theorem dX11_goesOn_243 : decode bX11_goesOn 243 = .ok (.ifCond .ne 4, 3) := by decide +kernel
theorem dX11_goesOn_246 : decode bX11_goesOn 246 = .ok (.return_, 1) := by decide +kernel
theorem dX11_goesOn_247 : decode bX11_goesOn 247 = .ok (.aload_n 0, 1) := by decide +kernel
theorem dX11_goesOn_248 : decode bX11_goesOn 248 = .ok (.getfield 71, 3) := by decide +kernel
theorem dX11_goesOn_251 : decode bX11_goesOn 251 = .ok (.iload_n 1, 1) := by decide +kernel
theorem dX11_goesOn_252 : decode bX11_goesOn 252 = .ok (.iload_n 2, 1) := by decide +kernel
theorem dX11_goesOn_253 : decode bX11_goesOn 253 = .ok (.iconst 1, 1) := by decide +kernel
theorem dX11_goesOn_254 : decode bX11_goesOn 254 = .ok (.iadd, 1) := by decide +kernel
theorem dX11_goesOn_255 : decode bX11_goesOn 255 = .ok (.iastore, 1) := by decide +kernel
theorem dX11_goesOn_256 : decode bX11_goesOn 256 = .ok (.aload_n 0, 1) := by decide +kernel
theorem dX11_goesOn_257 : decode bX11_goesOn 257 = .ok (.getfield 74, 3) := by decide +kernel
theorem dX11_goesOn_260 : decode bX11_goesOn 260 = .ok (.iload_n 1, 1) := by decide +kernel
theorem dX11_goesOn_261 : decode bX11_goesOn 261 = .ok (.iload 6, 2) := by decide +kernel
theorem dX11_goesOn_263 : decode bX11_goesOn 263 = .ok (.ifCond .eq 7, 3) := by decide +kernel
theorem dX11_goesOn_266 : decode bX11_goesOn 266 = .ok (.iconst 1, 1) := by decide +kernel
theorem dX11_goesOn_267 : decode bX11_goesOn 267 = .ok (.goto 4, 3) := by decide +kernel
theorem dX11_goesOn_270 : decode bX11_goesOn 270 = .ok (.iconst 2, 1) := by decide +kernel
theorem dX11_goesOn_271 : decode bX11_goesOn 271 = .ok (.iastore, 1) := by decide +kernel
theorem dX11_goesOn_272 : decode bX11_goesOn 272 = .ok (.return_, 1) := by decide +kernel
theorem dX11_runs_0 : decode bX11_runs 0 = .ok (.iconst 0, 1) := by decide +kernel
theorem dX11_runs_1 : decode bX11_runs 1 = .ok (.istore_n 1, 1) := by decide +kernel
theorem dX11_runs_2 : decode bX11_runs 2 = .ok (.iload_n 1, 1) := by decide +kernel
theorem dX11_runs_3 : decode bX11_runs 3 = .ok (.aload_n 0, 1) := by decide +kernel
theorem dX11_runs_4 : decode bX11_runs 4 = .ok (.invokevirtual 227, 3) := by decide +kernel
theorem dX11_runs_7 : decode bX11_runs 7 = .ok (.if_icmp .ge 65, 3) := by decide +kernel
theorem dX11_runs_10 : decode bX11_runs 10 = .ok (.aload_n 0, 1) := by decide +kernel
theorem dX11_runs_11 : decode bX11_runs 11 = .ok (.getfield 59, 3) := by decide +kernel
theorem dX11_runs_14 : decode bX11_runs 14 = .ok (.iload_n 1, 1) := by decide +kernel
theorem dX11_runs_15 : decode bX11_runs 15 = .ok (.aload_n 0, 1) := by decide +kernel
theorem dX11_runs_16 : decode bX11_runs 16 = .ok (.getfield 40, 3) := by decide +kernel
theorem dX11_runs_19 : decode bX11_runs 19 = .ok (.iconst 4, 1) := by decide +kernel
theorem dX11_runs_20 : decode bX11_runs 20 = .ok (.iload_n 1, 1) := by decide +kernel
theorem dX11_runs_21 : decode bX11_runs 21 = .ok (.imul, 1) := by decide +kernel
theorem dX11_runs_22 : decode bX11_runs 22 = .ok (.iaload, 1) := by decide +kernel
theorem dX11_runs_23 : decode bX11_runs 23 = .ok (.iastore, 1) := by decide +kernel
theorem dX11_runs_24 : decode bX11_runs 24 = .ok (.aload_n 0, 1) := by decide +kernel
theorem dX11_runs_25 : decode bX11_runs 25 = .ok (.getfield 62, 3) := by decide +kernel
theorem dX11_runs_28 : decode bX11_runs 28 = .ok (.iload_n 1, 1) := by decide +kernel
theorem dX11_runs_29 : decode bX11_runs 29 = .ok (.aload_n 0, 1) := by decide +kernel
theorem dX11_runs_30 : decode bX11_runs 30 = .ok (.getfield 40, 3) := by decide +kernel
theorem dX11_runs_33 : decode bX11_runs 33 = .ok (.iconst 4, 1) := by decide +kernel
theorem dX11_runs_34 : decode bX11_runs 34 = .ok (.iload_n 1, 1) := by decide +kernel
theorem dX11_runs_35 : decode bX11_runs 35 = .ok (.imul, 1) := by decide +kernel
theorem dX11_runs_36 : decode bX11_runs 36 = .ok (.iaload, 1) := by decide +kernel
theorem dX11_runs_37 : decode bX11_runs 37 = .ok (.iastore, 1) := by decide +kernel
theorem dX11_runs_38 : decode bX11_runs 38 = .ok (.aload_n 0, 1) := by decide +kernel
theorem dX11_runs_39 : decode bX11_runs 39 = .ok (.getfield 65, 3) := by decide +kernel
theorem dX11_runs_42 : decode bX11_runs 42 = .ok (.iload_n 1, 1) := by decide +kernel
theorem dX11_runs_43 : decode bX11_runs 43 = .ok (.iconst (-1), 1) := by decide +kernel
theorem dX11_runs_44 : decode bX11_runs 44 = .ok (.iastore, 1) := by decide +kernel
theorem dX11_runs_45 : decode bX11_runs 45 = .ok (.aload_n 0, 1) := by decide +kernel
theorem dX11_runs_46 : decode bX11_runs 46 = .ok (.getfield 68, 3) := by decide +kernel
theorem dX11_runs_49 : decode bX11_runs 49 = .ok (.iload_n 1, 1) := by decide +kernel
theorem dX11_runs_50 : decode bX11_runs 50 = .ok (.iconst (-1), 1) := by decide +kernel
theorem dX11_runs_51 : decode bX11_runs 51 = .ok (.iastore, 1) := by decide +kernel
theorem dX11_runs_52 : decode bX11_runs 52 = .ok (.aload_n 0, 1) := by decide +kernel
theorem dX11_runs_53 : decode bX11_runs 53 = .ok (.getfield 71, 3) := by decide +kernel
theorem dX11_runs_56 : decode bX11_runs 56 = .ok (.iload_n 1, 1) := by decide +kernel
theorem dX11_runs_57 : decode bX11_runs 57 = .ok (.iconst (-1), 1) := by decide +kernel
theorem dX11_runs_58 : decode bX11_runs 58 = .ok (.iastore, 1) := by decide +kernel
theorem dX11_runs_59 : decode bX11_runs 59 = .ok (.aload_n 0, 1) := by decide +kernel
theorem dX11_runs_60 : decode bX11_runs 60 = .ok (.getfield 74, 3) := by decide +kernel
theorem dX11_runs_63 : decode bX11_runs 63 = .ok (.iload_n 1, 1) := by decide +kernel
theorem dX11_runs_64 : decode bX11_runs 64 = .ok (.iconst 0, 1) := by decide +kernel
theorem dX11_runs_65 : decode bX11_runs 65 = .ok (.iastore, 1) := by decide +kernel
theorem dX11_runs_66 : decode bX11_runs 66 = .ok (.iinc 1 1, 3) := by decide +kernel
theorem dX11_runs_69 : decode bX11_runs 69 = .ok (.goto (-67), 3) := by decide +kernel
theorem dX11_runs_72 : decode bX11_runs 72 = .ok (.iconst 0, 1) := by decide +kernel
theorem dX11_runs_73 : decode bX11_runs 73 = .ok (.istore_n 1, 1) := by decide +kernel
theorem dX11_runs_74 : decode bX11_runs 74 = .ok (.iload_n 1, 1) := by decide +kernel
theorem dX11_runs_75 : decode bX11_runs 75 = .ok (.aload_n 0, 1) := by decide +kernel
theorem dX11_runs_76 : decode bX11_runs 76 = .ok (.invokevirtual 234, 3) := by decide +kernel
theorem dX11_runs_79 : decode bX11_runs 79 = .ok (.if_icmp .ge 31, 3) := by decide +kernel
theorem dX11_runs_82 : decode bX11_runs 82 = .ok (.iconst 0, 1) := by decide +kernel
theorem dX11_runs_83 : decode bX11_runs 83 = .ok (.istore_n 2, 1) := by decide +kernel
theorem dX11_runs_84 : decode bX11_runs 84 = .ok (.iload_n 2, 1) := by decide +kernel
theorem dX11_runs_85 : decode bX11_runs 85 = .ok (.aload_n 0, 1) := by decide +kernel
theorem dX11_runs_86 : decode bX11_runs 86 = .ok (.invokevirtual 227, 3) := by decide +kernel
theorem dX11_runs_89 : decode bX11_runs 89 = .ok (.if_icmp .ge 15, 3) := by decide +kernel
theorem dX11_runs_92 : decode bX11_runs 92 = .ok (.aload_n 0, 1) := by decide +kernel
theorem dX11_runs_93 : decode bX11_runs 93 = .ok (.iload_n 2, 1) := by decide +kernel
theorem dX11_runs_94 : decode bX11_runs 94 = .ok (.iload_n 1, 1) := by decide +kernel
theorem dX11_runs_95 : decode bX11_runs 95 = .ok (.invokevirtual 293, 3) := by decide +kernel
theorem dX11_runs_98 : decode bX11_runs 98 = .ok (.iinc 2 1, 3) := by decide +kernel
theorem dX11_runs_101 : decode bX11_runs 101 = .ok (.goto (-17), 3) := by decide +kernel
theorem dX11_runs_104 : decode bX11_runs 104 = .ok (.iinc 1 1, 3) := by decide +kernel
theorem dX11_runs_107 : decode bX11_runs 107 = .ok (.goto (-33), 3) := by decide +kernel
theorem dX11_runs_110 : decode bX11_runs 110 = .ok (.return_, 1) := by decide +kernel
theorem dX11_laysNow_0 : decode bX11_laysNow 0 = .ok (.aload_n 0, 1) := by decide +kernel
theorem dX11_laysNow_1 : decode bX11_laysNow 1 = .ok (.invokevirtual 296, 3) := by decide +kernel
theorem dX11_laysNow_4 : decode bX11_laysNow 4 = .ok (.aload_n 0, 1) := by decide +kernel
theorem dX11_laysNow_5 : decode bX11_laysNow 5 = .ok (.invokevirtual 299, 3) := by decide +kernel
theorem dX11_laysNow_8 : decode bX11_laysNow 8 = .ok (.return_, 1) := by decide +kernel
theorem dX11_soundNow_0 : decode bX11_soundNow 0 = .ok (.iconst 0, 1) := by decide +kernel
theorem dX11_soundNow_1 : decode bX11_soundNow 1 = .ok (.istore_n 1, 1) := by decide +kernel
theorem dX11_soundNow_2 : decode bX11_soundNow 2 = .ok (.iconst 0, 1) := by decide +kernel
theorem dX11_soundNow_3 : decode bX11_soundNow 3 = .ok (.istore_n 2, 1) := by decide +kernel
theorem dX11_soundNow_4 : decode bX11_soundNow 4 = .ok (.iload_n 2, 1) := by decide +kernel
theorem dX11_soundNow_5 : decode bX11_soundNow 5 = .ok (.aload_n 0, 1) := by decide +kernel
theorem dX11_soundNow_6 : decode bX11_soundNow 6 = .ok (.invokevirtual 227, 3) := by decide +kernel
theorem dX11_soundNow_9 : decode bX11_soundNow 9 = .ok (.if_icmp .ge 29, 3) := by decide +kernel
theorem dX11_soundNow_12 : decode bX11_soundNow 12 = .ok (.iload_n 1, 1) := by decide +kernel
theorem dX11_soundNow_13 : decode bX11_soundNow 13 = .ok (.aload_n 0, 1) := by decide +kernel
theorem dX11_soundNow_14 : decode bX11_soundNow 14 = .ok (.getfield 71, 3) := by decide +kernel
theorem dX11_soundNow_17 : decode bX11_soundNow 17 = .ok (.iload_n 2, 1) := by decide +kernel
theorem dX11_soundNow_18 : decode bX11_soundNow 18 = .ok (.iaload, 1) := by decide +kernel
theorem dX11_soundNow_19 : decode bX11_soundNow 19 = .ok (.iconst (-1), 1) := by decide +kernel
theorem dX11_soundNow_20 : decode bX11_soundNow 20 = .ok (.if_icmp .ne 9, 3) := by decide +kernel
theorem dX11_soundNow_23 : decode bX11_soundNow 23 = .ok (.iconst 1, 1) := by decide +kernel
theorem dX11_soundNow_24 : decode bX11_soundNow 24 = .ok (.iload_n 2, 1) := by decide +kernel
theorem dX11_soundNow_25 : decode bX11_soundNow 25 = .ok (.ishl, 1) := by decide +kernel
theorem dX11_soundNow_26 : decode bX11_soundNow 26 = .ok (.goto 4, 3) := by decide +kernel
theorem dX11_soundNow_29 : decode bX11_soundNow 29 = .ok (.iconst 0, 1) := by decide +kernel
theorem dX11_soundNow_30 : decode bX11_soundNow 30 = .ok (.ior, 1) := by decide +kernel
theorem dX11_soundNow_31 : decode bX11_soundNow 31 = .ok (.istore_n 1, 1) := by decide +kernel
theorem dX11_soundNow_32 : decode bX11_soundNow 32 = .ok (.iinc 2 1, 3) := by decide +kernel
theorem dX11_soundNow_35 : decode bX11_soundNow 35 = .ok (.goto (-31), 3) := by decide +kernel
theorem dX11_soundNow_38 : decode bX11_soundNow 38 = .ok (.iload_n 1, 1) := by decide +kernel
theorem dX11_soundNow_39 : decode bX11_soundNow 39 = .ok (.ireturn, 1) := by decide +kernel
theorem dX11_hasCome_0 : decode bX11_hasCome 0 = .ok (.iload_n 2, 1) := by decide +kernel
theorem dX11_hasCome_1 : decode bX11_hasCome 1 = .ok (.aload_n 0, 1) := by decide +kernel
theorem dX11_hasCome_2 : decode bX11_hasCome 2 = .ok (.iload_n 1, 1) := by decide +kernel
theorem dX11_hasCome_3 : decode bX11_hasCome 3 = .ok (.invokevirtual 265, 3) := by decide +kernel
theorem dX11_hasCome_6 : decode bX11_hasCome 6 = .ok (.if_icmp .lt 7, 3) := by decide +kernel
theorem dX11_hasCome_9 : decode bX11_hasCome 9 = .ok (.iconst 1, 1) := by decide +kernel
theorem dX11_hasCome_10 : decode bX11_hasCome 10 = .ok (.goto 4, 3) := by decide +kernel
theorem dX11_hasCome_13 : decode bX11_hasCome 13 = .ok (.iconst 0, 1) := by decide +kernel
theorem dX11_hasCome_14 : decode bX11_hasCome 14 = .ok (.ireturn, 1) := by decide +kernel
theorem dX11_isWhole_0 : decode bX11_isWhole 0 = .ok (.aload_n 0, 1) := by decide +kernel
theorem dX11_isWhole_1 : decode bX11_isWhole 1 = .ok (.getfield 71, 3) := by decide +kernel
theorem dX11_isWhole_4 : decode bX11_isWhole 4 = .ok (.iload_n 1, 1) := by decide +kernel
theorem dX11_isWhole_5 : decode bX11_isWhole 5 = .ok (.iaload, 1) := by decide +kernel
theorem dX11_isWhole_6 : decode bX11_isWhole 6 = .ok (.iconst (-1), 1) := by decide +kernel
theorem dX11_isWhole_7 : decode bX11_isWhole 7 = .ok (.if_icmp .eq 13, 3) := by decide +kernel
theorem dX11_isWhole_10 : decode bX11_isWhole 10 = .ok (.aload_n 0, 1) := by decide +kernel
theorem dX11_isWhole_11 : decode bX11_isWhole 11 = .ok (.getfield 71, 3) := by decide +kernel
theorem dX11_isWhole_14 : decode bX11_isWhole 14 = .ok (.iload_n 1, 1) := by decide +kernel
theorem dX11_isWhole_15 : decode bX11_isWhole 15 = .ok (.iaload, 1) := by decide +kernel
theorem dX11_isWhole_16 : decode bX11_isWhole 16 = .ok (.iload_n 2, 1) := by decide +kernel
theorem dX11_isWhole_17 : decode bX11_isWhole 17 = .ok (.if_icmp .le 7, 3) := by decide +kernel
theorem dX11_isWhole_20 : decode bX11_isWhole 20 = .ok (.iconst 1, 1) := by decide +kernel
theorem dX11_isWhole_21 : decode bX11_isWhole 21 = .ok (.goto 4, 3) := by decide +kernel
theorem dX11_isWhole_24 : decode bX11_isWhole 24 = .ok (.iconst 0, 1) := by decide +kernel
theorem dX11_isWhole_25 : decode bX11_isWhole 25 = .ok (.ireturn, 1) := by decide +kernel
theorem dX11_zone_0 : decode bX11_zone 0 = .ok (.aload_n 0, 1) := by decide +kernel
theorem dX11_zone_1 : decode bX11_zone 1 = .ok (.iconst 0, 1) := by decide +kernel
theorem dX11_zone_2 : decode bX11_zone 2 = .ok (.putfield 77, 3) := by decide +kernel
theorem dX11_zone_5 : decode bX11_zone 5 = .ok (.aload_n 0, 1) := by decide +kernel
theorem dX11_zone_6 : decode bX11_zone 6 = .ok (.iload_n 1, 1) := by decide +kernel
theorem dX11_zone_7 : decode bX11_zone 7 = .ok (.invokevirtual 302, 3) := by decide +kernel
theorem dX11_zone_10 : decode bX11_zone 10 = .ok (.ifCond .eq 12, 3) := by decide +kernel
theorem dX11_zone_13 : decode bX11_zone 13 = .ok (.aload_n 0, 1) := by decide +kernel
theorem dX11_zone_14 : decode bX11_zone 14 = .ok (.getfield 37, 3) := by decide +kernel
theorem dX11_zone_17 : decode bX11_zone 17 = .ok (.iload_n 1, 1) := by decide +kernel
theorem dX11_zone_18 : decode bX11_zone 18 = .ok (.iaload, 1) := by decide +kernel
theorem dX11_zone_19 : decode bX11_zone 19 = .ok (.goto 5, 3) := by decide +kernel
theorem dX11_zone_22 : decode bX11_zone 22 = .ok (.bipush (-2), 2) := by decide +kernel
theorem dX11_zone_24 : decode bX11_zone 24 = .ok (.ireturn, 1) := by decide +kernel
theorem dX11_piece_0 : decode bX11_piece 0 = .ok (.aload_n 0, 1) := by decide +kernel
theorem dX11_piece_1 : decode bX11_piece 1 = .ok (.iconst 0, 1) := by decide +kernel
theorem dX11_piece_2 : decode bX11_piece 2 = .ok (.putfield 77, 3) := by decide +kernel
theorem dX11_piece_5 : decode bX11_piece 5 = .ok (.aload_n 0, 1) := by decide +kernel
theorem dX11_piece_6 : decode bX11_piece 6 = .ok (.iload_n 1, 1) := by decide +kernel
theorem dX11_piece_7 : decode bX11_piece 7 = .ok (.i2l, 1) := by decide +kernel
theorem dX11_piece_8 : decode bX11_piece 8 = .ok (.invokevirtual 237, 3) := by decide +kernel
theorem dX11_piece_11 : decode bX11_piece 11 = .ok (.ifCond .eq 28, 3) := by decide +kernel
theorem dX11_piece_14 : decode bX11_piece 14 = .ok (.iload_n 2, 1) := by decide +kernel
theorem dX11_piece_15 : decode bX11_piece 15 = .ok (.i2l, 1) := by decide +kernel
theorem dX11_piece_16 : decode bX11_piece 16 = .ok (.lconst 0, 1) := by decide +kernel
theorem dX11_piece_17 : decode bX11_piece 17 = .ok (.ldc2_w 80, 3) := by decide +kernel
theorem dX11_piece_20 : decode bX11_piece 20 = .ok (.invokestatic 82, 3) := by decide +kernel
theorem dX11_piece_23 : decode bX11_piece 23 = .ok (.ifCond .eq 16, 3) := by decide +kernel
theorem dX11_piece_26 : decode bX11_piece 26 = .ok (.aload_n 0, 1) := by decide +kernel
theorem dX11_piece_27 : decode bX11_piece 27 = .ok (.getfield 40, 3) := by decide +kernel
theorem dX11_piece_30 : decode bX11_piece 30 = .ok (.iconst 4, 1) := by decide +kernel
theorem dX11_piece_31 : decode bX11_piece 31 = .ok (.iload_n 1, 1) := by decide +kernel
theorem dX11_piece_32 : decode bX11_piece 32 = .ok (.imul, 1) := by decide +kernel
theorem dX11_piece_33 : decode bX11_piece 33 = .ok (.iload_n 2, 1) := by decide +kernel
theorem dX11_piece_34 : decode bX11_piece 34 = .ok (.iadd, 1) := by decide +kernel
theorem dX11_piece_35 : decode bX11_piece 35 = .ok (.iaload, 1) := by decide +kernel
theorem dX11_piece_36 : decode bX11_piece 36 = .ok (.goto 5, 3) := by decide +kernel
theorem dX11_piece_39 : decode bX11_piece 39 = .ok (.bipush (-2), 2) := by decide +kernel
theorem dX11_piece_41 : decode bX11_piece 41 = .ok (.ireturn, 1) := by decide +kernel
theorem dX11_air_0 : decode bX11_air 0 = .ok (.aload_n 0, 1) := by decide +kernel
theorem dX11_air_1 : decode bX11_air 1 = .ok (.iconst 0, 1) := by decide +kernel
theorem dX11_air_2 : decode bX11_air 2 = .ok (.putfield 77, 3) := by decide +kernel
theorem dX11_air_5 : decode bX11_air 5 = .ok (.aload_n 0, 1) := by decide +kernel
theorem dX11_air_6 : decode bX11_air 6 = .ok (.iload_n 1, 1) := by decide +kernel
theorem dX11_air_7 : decode bX11_air 7 = .ok (.invokevirtual 302, 3) := by decide +kernel
theorem dX11_air_10 : decode bX11_air 10 = .ok (.ifCond .eq 12, 3) := by decide +kernel
theorem dX11_air_13 : decode bX11_air 13 = .ok (.aload_n 0, 1) := by decide +kernel
theorem dX11_air_14 : decode bX11_air 14 = .ok (.iload_n 2, 1) := by decide +kernel
theorem dX11_air_15 : decode bX11_air 15 = .ok (.i2l, 1) := by decide +kernel
theorem dX11_air_16 : decode bX11_air 16 = .ok (.invokevirtual 240, 3) := by decide +kernel
theorem dX11_air_19 : decode bX11_air 19 = .ok (.ifCond .ne 6, 3) := by decide +kernel
theorem dX11_air_22 : decode bX11_air 22 = .ok (.bipush (-2), 2) := by decide +kernel
theorem dX11_air_24 : decode bX11_air 24 = .ok (.ireturn, 1) := by decide +kernel
theorem dX11_air_25 : decode bX11_air 25 = .ok (.aload_n 0, 1) := by decide +kernel
theorem dX11_air_26 : decode bX11_air 26 = .ok (.invokevirtual 296, 3) := by decide +kernel
theorem dX11_air_29 : decode bX11_air 29 = .ok (.aload_n 0, 1) := by decide +kernel
theorem dX11_air_30 : decode bX11_air 30 = .ok (.iload_n 1, 1) := by decide +kernel
theorem dX11_air_31 : decode bX11_air 31 = .ok (.iload_n 2, 1) := by decide +kernel
theorem dX11_air_32 : decode bX11_air 32 = .ok (.invokevirtual 277, 3) := by decide +kernel
theorem dX11_air_35 : decode bX11_air 35 = .ok (.ireturn, 1) := by decide +kernel
theorem dX11_where_0 : decode bX11_where 0 = .ok (.aload_n 0, 1) := by decide +kernel
theorem dX11_where_1 : decode bX11_where 1 = .ok (.iconst 0, 1) := by decide +kernel
theorem dX11_where_2 : decode bX11_where 2 = .ok (.putfield 77, 3) := by decide +kernel
theorem dX11_where_5 : decode bX11_where 5 = .ok (.aload_n 0, 1) := by decide +kernel
theorem dX11_where_6 : decode bX11_where 6 = .ok (.iload_n 1, 1) := by decide +kernel
theorem dX11_where_7 : decode bX11_where 7 = .ok (.iload_n 2, 1) := by decide +kernel
theorem dX11_where_8 : decode bX11_where 8 = .ok (.invokevirtual 305, 3) := by decide +kernel
theorem dX11_where_11 : decode bX11_where 11 = .ok (.ifCond .ne 6, 3) := by decide +kernel
theorem dX11_where_14 : decode bX11_where 14 = .ok (.bipush (-2), 2) := by decide +kernel
theorem dX11_where_16 : decode bX11_where 16 = .ok (.ireturn, 1) := by decide +kernel
theorem dX11_where_17 : decode bX11_where 17 = .ok (.aload_n 0, 1) := by decide +kernel
theorem dX11_where_18 : decode bX11_where 18 = .ok (.invokevirtual 296, 3) := by decide +kernel
theorem dX11_where_21 : decode bX11_where 21 = .ok (.aload_n 0, 1) := by decide +kernel
theorem dX11_where_22 : decode bX11_where 22 = .ok (.iload_n 1, 1) := by decide +kernel
theorem dX11_where_23 : decode bX11_where 23 = .ok (.iload_n 2, 1) := by decide +kernel
theorem dX11_where_24 : decode bX11_where 24 = .ok (.invokevirtual 280, 3) := by decide +kernel
theorem dX11_where_27 : decode bX11_where 27 = .ok (.ireturn, 1) := by decide +kernel
theorem dX11_insideOf_0 : decode bX11_insideOf 0 = .ok (.iconst 0, 1) := by decide +kernel
theorem dX11_insideOf_1 : decode bX11_insideOf 1 = .ok (.istore_n 3, 1) := by decide +kernel
theorem dX11_insideOf_2 : decode bX11_insideOf 2 = .ok (.iconst 0, 1) := by decide +kernel
theorem dX11_insideOf_3 : decode bX11_insideOf 3 = .ok (.istore 4, 2) := by decide +kernel
theorem dX11_insideOf_5 : decode bX11_insideOf 5 = .ok (.iload 4, 2) := by decide +kernel
theorem dX11_insideOf_7 : decode bX11_insideOf 7 = .ok (.aload_n 0, 1) := by decide +kernel
theorem dX11_insideOf_8 : decode bX11_insideOf 8 = .ok (.invokevirtual 227, 3) := by decide +kernel
theorem dX11_insideOf_11 : decode bX11_insideOf 11 = .ok (.if_icmp .ge 31, 3) := by decide +kernel
theorem dX11_insideOf_14 : decode bX11_insideOf 14 = .ok (.iload_n 3, 1) := by decide +kernel
theorem dX11_insideOf_15 : decode bX11_insideOf 15 = .ok (.aload_n 0, 1) := by decide +kernel
theorem dX11_insideOf_16 : decode bX11_insideOf 16 = .ok (.iload 4, 2) := by decide +kernel
theorem dX11_insideOf_18 : decode bX11_insideOf 18 = .ok (.iload_n 2, 1) := by decide +kernel
theorem dX11_insideOf_19 : decode bX11_insideOf 19 = .ok (.invokevirtual 280, 3) := by decide +kernel
theorem dX11_insideOf_22 : decode bX11_insideOf 22 = .ok (.iload_n 1, 1) := by decide +kernel
theorem dX11_insideOf_23 : decode bX11_insideOf 23 = .ok (.if_icmp .ne 10, 3) := by decide +kernel
theorem dX11_insideOf_26 : decode bX11_insideOf 26 = .ok (.iconst 1, 1) := by decide +kernel
theorem dX11_insideOf_27 : decode bX11_insideOf 27 = .ok (.iload 4, 2) := by decide +kernel
theorem dX11_insideOf_29 : decode bX11_insideOf 29 = .ok (.ishl, 1) := by decide +kernel
theorem dX11_insideOf_30 : decode bX11_insideOf 30 = .ok (.goto 4, 3) := by decide +kernel
theorem dX11_insideOf_33 : decode bX11_insideOf 33 = .ok (.iconst 0, 1) := by decide +kernel
theorem dX11_insideOf_34 : decode bX11_insideOf 34 = .ok (.ior, 1) := by decide +kernel
theorem dX11_insideOf_35 : decode bX11_insideOf 35 = .ok (.istore_n 3, 1) := by decide +kernel
theorem dX11_insideOf_36 : decode bX11_insideOf 36 = .ok (.iinc 4 1, 3) := by decide +kernel
theorem dX11_insideOf_39 : decode bX11_insideOf 39 = .ok (.goto (-34), 3) := by decide +kernel
theorem dX11_insideOf_42 : decode bX11_insideOf 42 = .ok (.iload_n 3, 1) := by decide +kernel
theorem dX11_insideOf_43 : decode bX11_insideOf 43 = .ok (.ireturn, 1) := by decide +kernel
theorem dX11_inside_0 : decode bX11_inside 0 = .ok (.aload_n 0, 1) := by decide +kernel
theorem dX11_inside_1 : decode bX11_inside 1 = .ok (.iconst 0, 1) := by decide +kernel
theorem dX11_inside_2 : decode bX11_inside 2 = .ok (.putfield 77, 3) := by decide +kernel
theorem dX11_inside_5 : decode bX11_inside 5 = .ok (.aload_n 0, 1) := by decide +kernel
theorem dX11_inside_6 : decode bX11_inside 6 = .ok (.iload_n 1, 1) := by decide +kernel
theorem dX11_inside_7 : decode bX11_inside 7 = .ok (.invokevirtual 302, 3) := by decide +kernel
theorem dX11_inside_10 : decode bX11_inside 10 = .ok (.ifCond .eq 12, 3) := by decide +kernel
theorem dX11_inside_13 : decode bX11_inside 13 = .ok (.aload_n 0, 1) := by decide +kernel
theorem dX11_inside_14 : decode bX11_inside 14 = .ok (.iload_n 2, 1) := by decide +kernel
theorem dX11_inside_15 : decode bX11_inside 15 = .ok (.i2l, 1) := by decide +kernel
theorem dX11_inside_16 : decode bX11_inside 16 = .ok (.invokevirtual 240, 3) := by decide +kernel
theorem dX11_inside_19 : decode bX11_inside 19 = .ok (.ifCond .ne 6, 3) := by decide +kernel
theorem dX11_inside_22 : decode bX11_inside 22 = .ok (.bipush (-2), 2) := by decide +kernel
theorem dX11_inside_24 : decode bX11_inside 24 = .ok (.ireturn, 1) := by decide +kernel
theorem dX11_inside_25 : decode bX11_inside 25 = .ok (.aload_n 0, 1) := by decide +kernel
theorem dX11_inside_26 : decode bX11_inside 26 = .ok (.invokevirtual 296, 3) := by decide +kernel
theorem dX11_inside_29 : decode bX11_inside 29 = .ok (.aload_n 0, 1) := by decide +kernel
theorem dX11_inside_30 : decode bX11_inside 30 = .ok (.iload_n 1, 1) := by decide +kernel
theorem dX11_inside_31 : decode bX11_inside 31 = .ok (.iload_n 2, 1) := by decide +kernel
theorem dX11_inside_32 : decode bX11_inside 32 = .ok (.invokevirtual 308, 3) := by decide +kernel
theorem dX11_inside_35 : decode bX11_inside 35 = .ok (.ireturn, 1) := by decide +kernel
theorem dX11_out_0 : decode bX11_out 0 = .ok (.aload_n 0, 1) := by decide +kernel
theorem dX11_out_1 : decode bX11_out 1 = .ok (.iconst 0, 1) := by decide +kernel
theorem dX11_out_2 : decode bX11_out 2 = .ok (.putfield 77, 3) := by decide +kernel
theorem dX11_out_5 : decode bX11_out 5 = .ok (.aload_n 0, 1) := by decide +kernel
theorem dX11_out_6 : decode bX11_out 6 = .ok (.iload_n 1, 1) := by decide +kernel
theorem dX11_out_7 : decode bX11_out 7 = .ok (.i2l, 1) := by decide +kernel
theorem dX11_out_8 : decode bX11_out 8 = .ok (.invokevirtual 240, 3) := by decide +kernel
theorem dX11_out_11 : decode bX11_out 11 = .ok (.ifCond .ne 6, 3) := by decide +kernel
theorem dX11_out_14 : decode bX11_out 14 = .ok (.bipush (-2), 2) := by decide +kernel
theorem dX11_out_16 : decode bX11_out 16 = .ok (.ireturn, 1) := by decide +kernel
theorem dX11_out_17 : decode bX11_out 17 = .ok (.aload_n 0, 1) := by decide +kernel
theorem dX11_out_18 : decode bX11_out 18 = .ok (.invokevirtual 296, 3) := by decide +kernel
theorem dX11_out_21 : decode bX11_out 21 = .ok (.aload_n 0, 1) := by decide +kernel
theorem dX11_out_22 : decode bX11_out 22 = .ok (.bipush 10, 2) := by decide +kernel
theorem dX11_out_24 : decode bX11_out 24 = .ok (.iload_n 1, 1) := by decide +kernel
theorem dX11_out_25 : decode bX11_out 25 = .ok (.invokevirtual 308, 3) := by decide +kernel
theorem dX11_out_28 : decode bX11_out 28 = .ok (.ireturn, 1) := by decide +kernel
theorem dX11_leaves_0 : decode bX11_leaves 0 = .ok (.aload_n 0, 1) := by decide +kernel
theorem dX11_leaves_1 : decode bX11_leaves 1 = .ok (.iconst 0, 1) := by decide +kernel
theorem dX11_leaves_2 : decode bX11_leaves 2 = .ok (.putfield 77, 3) := by decide +kernel
theorem dX11_leaves_5 : decode bX11_leaves 5 = .ok (.aload_n 0, 1) := by decide +kernel
theorem dX11_leaves_6 : decode bX11_leaves 6 = .ok (.iload_n 1, 1) := by decide +kernel
theorem dX11_leaves_7 : decode bX11_leaves 7 = .ok (.i2l, 1) := by decide +kernel
theorem dX11_leaves_8 : decode bX11_leaves 8 = .ok (.invokevirtual 237, 3) := by decide +kernel
theorem dX11_leaves_11 : decode bX11_leaves 11 = .ok (.ifCond .ne 6, 3) := by decide +kernel
theorem dX11_leaves_14 : decode bX11_leaves 14 = .ok (.bipush (-2), 2) := by decide +kernel
theorem dX11_leaves_16 : decode bX11_leaves 16 = .ok (.ireturn, 1) := by decide +kernel
theorem dX11_leaves_17 : decode bX11_leaves 17 = .ok (.aload_n 0, 1) := by decide +kernel
theorem dX11_leaves_18 : decode bX11_leaves 18 = .ok (.invokevirtual 296, 3) := by decide +kernel
theorem dX11_leaves_21 : decode bX11_leaves 21 = .ok (.iconst 0, 1) := by decide +kernel
theorem dX11_leaves_22 : decode bX11_leaves 22 = .ok (.istore_n 2, 1) := by decide +kernel
theorem dX11_leaves_23 : decode bX11_leaves 23 = .ok (.iload_n 2, 1) := by decide +kernel
theorem dX11_leaves_24 : decode bX11_leaves 24 = .ok (.aload_n 0, 1) := by decide +kernel
theorem dX11_leaves_25 : decode bX11_leaves 25 = .ok (.invokevirtual 234, 3) := by decide +kernel
theorem dX11_leaves_28 : decode bX11_leaves 28 = .ok (.if_icmp .gt 22, 3) := by decide +kernel
theorem dX11_leaves_31 : decode bX11_leaves 31 = .ok (.aload_n 0, 1) := by decide +kernel
theorem dX11_leaves_32 : decode bX11_leaves 32 = .ok (.iload_n 1, 1) := by decide +kernel
theorem dX11_leaves_33 : decode bX11_leaves 33 = .ok (.iload_n 2, 1) := by decide +kernel
theorem dX11_leaves_34 : decode bX11_leaves 34 = .ok (.invokevirtual 280, 3) := by decide +kernel
theorem dX11_leaves_37 : decode bX11_leaves 37 = .ok (.bipush 10, 2) := by decide +kernel
theorem dX11_leaves_39 : decode bX11_leaves 39 = .ok (.if_icmp .ne 5, 3) := by decide +kernel
theorem dX11_leaves_42 : decode bX11_leaves 42 = .ok (.iload_n 2, 1) := by decide +kernel
theorem dX11_leaves_43 : decode bX11_leaves 43 = .ok (.ireturn, 1) := by decide +kernel
theorem dX11_leaves_44 : decode bX11_leaves 44 = .ok (.iinc 2 1, 3) := by decide +kernel
theorem dX11_leaves_47 : decode bX11_leaves 47 = .ok (.goto (-24), 3) := by decide +kernel
theorem dX11_leaves_50 : decode bX11_leaves 50 = .ok (.iconst (-1), 1) := by decide +kernel
theorem dX11_leaves_51 : decode bX11_leaves 51 = .ok (.ireturn, 1) := by decide +kernel
theorem dX11_skin_0 : decode bX11_skin 0 = .ok (.aload_n 0, 1) := by decide +kernel
theorem dX11_skin_1 : decode bX11_skin 1 = .ok (.iconst 0, 1) := by decide +kernel
theorem dX11_skin_2 : decode bX11_skin 2 = .ok (.putfield 77, 3) := by decide +kernel
theorem dX11_skin_5 : decode bX11_skin 5 = .ok (.aload_n 0, 1) := by decide +kernel
theorem dX11_skin_6 : decode bX11_skin 6 = .ok (.iload_n 1, 1) := by decide +kernel
theorem dX11_skin_7 : decode bX11_skin 7 = .ok (.iload_n 2, 1) := by decide +kernel
theorem dX11_skin_8 : decode bX11_skin 8 = .ok (.invokevirtual 305, 3) := by decide +kernel
theorem dX11_skin_11 : decode bX11_skin 11 = .ok (.ifCond .ne 6, 3) := by decide +kernel
theorem dX11_skin_14 : decode bX11_skin 14 = .ok (.bipush (-2), 2) := by decide +kernel
theorem dX11_skin_16 : decode bX11_skin 16 = .ok (.ireturn, 1) := by decide +kernel
theorem dX11_skin_17 : decode bX11_skin 17 = .ok (.aload_n 0, 1) := by decide +kernel
theorem dX11_skin_18 : decode bX11_skin 18 = .ok (.invokevirtual 311, 3) := by decide +kernel
theorem dX11_skin_21 : decode bX11_skin 21 = .ok (.aload_n 0, 1) := by decide +kernel
theorem dX11_skin_22 : decode bX11_skin 22 = .ok (.iload_n 1, 1) := by decide +kernel
theorem dX11_skin_23 : decode bX11_skin 23 = .ok (.iload_n 2, 1) := by decide +kernel
theorem dX11_skin_24 : decode bX11_skin 24 = .ok (.invokevirtual 268, 3) := by decide +kernel
theorem dX11_skin_27 : decode bX11_skin 27 = .ok (.ireturn, 1) := by decide +kernel
theorem dX11_core_0 : decode bX11_core 0 = .ok (.aload_n 0, 1) := by decide +kernel
theorem dX11_core_1 : decode bX11_core 1 = .ok (.iconst 0, 1) := by decide +kernel
theorem dX11_core_2 : decode bX11_core 2 = .ok (.putfield 77, 3) := by decide +kernel
theorem dX11_core_5 : decode bX11_core 5 = .ok (.aload_n 0, 1) := by decide +kernel
theorem dX11_core_6 : decode bX11_core 6 = .ok (.iload_n 1, 1) := by decide +kernel
theorem dX11_core_7 : decode bX11_core 7 = .ok (.iload_n 2, 1) := by decide +kernel
theorem dX11_core_8 : decode bX11_core 8 = .ok (.invokevirtual 305, 3) := by decide +kernel
theorem dX11_core_11 : decode bX11_core 11 = .ok (.ifCond .ne 6, 3) := by decide +kernel
theorem dX11_core_14 : decode bX11_core 14 = .ok (.bipush (-2), 2) := by decide +kernel
theorem dX11_core_16 : decode bX11_core 16 = .ok (.ireturn, 1) := by decide +kernel
theorem dX11_core_17 : decode bX11_core 17 = .ok (.aload_n 0, 1) := by decide +kernel
theorem dX11_core_18 : decode bX11_core 18 = .ok (.invokevirtual 311, 3) := by decide +kernel
theorem dX11_core_21 : decode bX11_core 21 = .ok (.aload_n 0, 1) := by decide +kernel
theorem dX11_core_22 : decode bX11_core 22 = .ok (.iload_n 1, 1) := by decide +kernel
theorem dX11_core_23 : decode bX11_core 23 = .ok (.iload_n 2, 1) := by decide +kernel
theorem dX11_core_24 : decode bX11_core 24 = .ok (.invokevirtual 271, 3) := by decide +kernel
theorem dX11_core_27 : decode bX11_core 27 = .ok (.ireturn, 1) := by decide +kernel
theorem dX11_strain_0 : decode bX11_strain 0 = .ok (.aload_n 0, 1) := by decide +kernel
theorem dX11_strain_1 : decode bX11_strain 1 = .ok (.iconst 0, 1) := by decide +kernel
theorem dX11_strain_2 : decode bX11_strain 2 = .ok (.putfield 77, 3) := by decide +kernel
theorem dX11_strain_5 : decode bX11_strain 5 = .ok (.aload_n 0, 1) := by decide +kernel
theorem dX11_strain_6 : decode bX11_strain 6 = .ok (.iload_n 1, 1) := by decide +kernel
theorem dX11_strain_7 : decode bX11_strain 7 = .ok (.iload_n 2, 1) := by decide +kernel
theorem dX11_strain_8 : decode bX11_strain 8 = .ok (.invokevirtual 305, 3) := by decide +kernel
theorem dX11_strain_11 : decode bX11_strain 11 = .ok (.ifCond .ne 6, 3) := by decide +kernel
theorem dX11_strain_14 : decode bX11_strain 14 = .ok (.bipush (-2), 2) := by decide +kernel
theorem dX11_strain_16 : decode bX11_strain 16 = .ok (.ireturn, 1) := by decide +kernel
theorem dX11_strain_17 : decode bX11_strain 17 = .ok (.aload_n 0, 1) := by decide +kernel
theorem dX11_strain_18 : decode bX11_strain 18 = .ok (.invokevirtual 311, 3) := by decide +kernel
theorem dX11_strain_21 : decode bX11_strain 21 = .ok (.aload_n 0, 1) := by decide +kernel
theorem dX11_strain_22 : decode bX11_strain 22 = .ok (.iload_n 1, 1) := by decide +kernel
theorem dX11_strain_23 : decode bX11_strain 23 = .ok (.iload_n 2, 1) := by decide +kernel
theorem dX11_strain_24 : decode bX11_strain 24 = .ok (.invokevirtual 290, 3) := by decide +kernel
theorem dX11_strain_27 : decode bX11_strain 27 = .ok (.ireturn, 1) := by decide +kernel
theorem dX11_peakOf_0 : decode bX11_peakOf 0 = .ok (.iconst 0, 1) := by decide +kernel
theorem dX11_peakOf_1 : decode bX11_peakOf 1 = .ok (.istore_n 2, 1) := by decide +kernel
theorem dX11_peakOf_2 : decode bX11_peakOf 2 = .ok (.iconst 1, 1) := by decide +kernel
theorem dX11_peakOf_3 : decode bX11_peakOf 3 = .ok (.istore_n 3, 1) := by decide +kernel
theorem dX11_peakOf_4 : decode bX11_peakOf 4 = .ok (.iload_n 3, 1) := by decide +kernel
theorem dX11_peakOf_5 : decode bX11_peakOf 5 = .ok (.aload_n 0, 1) := by decide +kernel
theorem dX11_peakOf_6 : decode bX11_peakOf 6 = .ok (.invokevirtual 234, 3) := by decide +kernel
theorem dX11_peakOf_9 : decode bX11_peakOf 9 = .ok (.if_icmp .gt 26, 3) := by decide +kernel
theorem dX11_peakOf_12 : decode bX11_peakOf 12 = .ok (.aload_n 0, 1) := by decide +kernel
theorem dX11_peakOf_13 : decode bX11_peakOf 13 = .ok (.iload_n 1, 1) := by decide +kernel
theorem dX11_peakOf_14 : decode bX11_peakOf 14 = .ok (.iload_n 3, 1) := by decide +kernel
theorem dX11_peakOf_15 : decode bX11_peakOf 15 = .ok (.invokevirtual 290, 3) := by decide +kernel
theorem dX11_peakOf_18 : decode bX11_peakOf 18 = .ok (.aload_n 0, 1) := by decide +kernel
theorem dX11_peakOf_19 : decode bX11_peakOf 19 = .ok (.iload_n 1, 1) := by decide +kernel
theorem dX11_peakOf_20 : decode bX11_peakOf 20 = .ok (.iload_n 2, 1) := by decide +kernel
theorem dX11_peakOf_21 : decode bX11_peakOf 21 = .ok (.invokevirtual 290, 3) := by decide +kernel
theorem dX11_peakOf_24 : decode bX11_peakOf 24 = .ok (.if_icmp .le 5, 3) := by decide +kernel
theorem dX11_peakOf_27 : decode bX11_peakOf 27 = .ok (.iload_n 3, 1) := by decide +kernel
theorem dX11_peakOf_28 : decode bX11_peakOf 28 = .ok (.istore_n 2, 1) := by decide +kernel
theorem dX11_peakOf_29 : decode bX11_peakOf 29 = .ok (.iinc 3 1, 3) := by decide +kernel
theorem dX11_peakOf_32 : decode bX11_peakOf 32 = .ok (.goto (-28), 3) := by decide +kernel
theorem dX11_peakOf_35 : decode bX11_peakOf 35 = .ok (.iload_n 2, 1) := by decide +kernel
theorem dX11_peakOf_36 : decode bX11_peakOf 36 = .ok (.ireturn, 1) := by decide +kernel
theorem dX11_peak_0 : decode bX11_peak 0 = .ok (.aload_n 0, 1) := by decide +kernel
theorem dX11_peak_1 : decode bX11_peak 1 = .ok (.iconst 0, 1) := by decide +kernel
theorem dX11_peak_2 : decode bX11_peak 2 = .ok (.putfield 77, 3) := by decide +kernel
theorem dX11_peak_5 : decode bX11_peak 5 = .ok (.aload_n 0, 1) := by decide +kernel
theorem dX11_peak_6 : decode bX11_peak 6 = .ok (.iload_n 1, 1) := by decide +kernel
theorem dX11_peak_7 : decode bX11_peak 7 = .ok (.i2l, 1) := by decide +kernel
theorem dX11_peak_8 : decode bX11_peak 8 = .ok (.invokevirtual 237, 3) := by decide +kernel
theorem dX11_peak_11 : decode bX11_peak 11 = .ok (.ifCond .ne 6, 3) := by decide +kernel
theorem dX11_peak_14 : decode bX11_peak 14 = .ok (.bipush (-2), 2) := by decide +kernel
theorem dX11_peak_16 : decode bX11_peak 16 = .ok (.ireturn, 1) := by decide +kernel
theorem dX11_peak_17 : decode bX11_peak 17 = .ok (.aload_n 0, 1) := by decide +kernel
theorem dX11_peak_18 : decode bX11_peak 18 = .ok (.invokevirtual 311, 3) := by decide +kernel
theorem dX11_peak_21 : decode bX11_peak 21 = .ok (.aload_n 0, 1) := by decide +kernel
theorem dX11_peak_22 : decode bX11_peak 22 = .ok (.iload_n 1, 1) := by decide +kernel
theorem dX11_peak_23 : decode bX11_peak 23 = .ok (.aload_n 0, 1) := by decide +kernel
theorem dX11_peak_24 : decode bX11_peak 24 = .ok (.iload_n 1, 1) := by decide +kernel
theorem dX11_peak_25 : decode bX11_peak 25 = .ok (.invokevirtual 314, 3) := by decide +kernel
theorem dX11_peak_28 : decode bX11_peak 28 = .ok (.invokevirtual 290, 3) := by decide +kernel
theorem dX11_peak_31 : decode bX11_peak 31 = .ok (.ireturn, 1) := by decide +kernel
theorem dX11_when_0 : decode bX11_when 0 = .ok (.aload_n 0, 1) := by decide +kernel
theorem dX11_when_1 : decode bX11_when 1 = .ok (.iconst 0, 1) := by decide +kernel
theorem dX11_when_2 : decode bX11_when 2 = .ok (.putfield 77, 3) := by decide +kernel
theorem dX11_when_5 : decode bX11_when 5 = .ok (.aload_n 0, 1) := by decide +kernel
theorem dX11_when_6 : decode bX11_when 6 = .ok (.iload_n 1, 1) := by decide +kernel
theorem dX11_when_7 : decode bX11_when 7 = .ok (.i2l, 1) := by decide +kernel
theorem dX11_when_8 : decode bX11_when 8 = .ok (.invokevirtual 237, 3) := by decide +kernel
theorem dX11_when_11 : decode bX11_when 11 = .ok (.ifCond .ne 6, 3) := by decide +kernel
theorem dX11_when_14 : decode bX11_when 14 = .ok (.bipush (-2), 2) := by decide +kernel
theorem dX11_when_16 : decode bX11_when 16 = .ok (.ireturn, 1) := by decide +kernel
theorem dX11_when_17 : decode bX11_when 17 = .ok (.aload_n 0, 1) := by decide +kernel
theorem dX11_when_18 : decode bX11_when 18 = .ok (.invokevirtual 311, 3) := by decide +kernel
theorem dX11_when_21 : decode bX11_when 21 = .ok (.aload_n 0, 1) := by decide +kernel
theorem dX11_when_22 : decode bX11_when 22 = .ok (.iload_n 1, 1) := by decide +kernel
theorem dX11_when_23 : decode bX11_when 23 = .ok (.invokevirtual 314, 3) := by decide +kernel
theorem dX11_when_26 : decode bX11_when 26 = .ok (.ireturn, 1) := by decide +kernel
theorem dX11_frozen_0 : decode bX11_frozen 0 = .ok (.aload_n 0, 1) := by decide +kernel
theorem dX11_frozen_1 : decode bX11_frozen 1 = .ok (.iconst 0, 1) := by decide +kernel
theorem dX11_frozen_2 : decode bX11_frozen 2 = .ok (.putfield 77, 3) := by decide +kernel
theorem dX11_frozen_5 : decode bX11_frozen 5 = .ok (.aload_n 0, 1) := by decide +kernel
theorem dX11_frozen_6 : decode bX11_frozen 6 = .ok (.iload_n 1, 1) := by decide +kernel
theorem dX11_frozen_7 : decode bX11_frozen 7 = .ok (.i2l, 1) := by decide +kernel
theorem dX11_frozen_8 : decode bX11_frozen 8 = .ok (.invokevirtual 237, 3) := by decide +kernel
theorem dX11_frozen_11 : decode bX11_frozen 11 = .ok (.ifCond .ne 6, 3) := by decide +kernel
theorem dX11_frozen_14 : decode bX11_frozen 14 = .ok (.bipush (-2), 2) := by decide +kernel
theorem dX11_frozen_16 : decode bX11_frozen 16 = .ok (.ireturn, 1) := by decide +kernel
theorem dX11_frozen_17 : decode bX11_frozen 17 = .ok (.aload_n 0, 1) := by decide +kernel
theorem dX11_frozen_18 : decode bX11_frozen 18 = .ok (.invokevirtual 311, 3) := by decide +kernel
theorem dX11_frozen_21 : decode bX11_frozen 21 = .ok (.aload_n 0, 1) := by decide +kernel
theorem dX11_frozen_22 : decode bX11_frozen 22 = .ok (.getfield 65, 3) := by decide +kernel
theorem dX11_frozen_25 : decode bX11_frozen 25 = .ok (.iload_n 1, 1) := by decide +kernel
theorem dX11_frozen_26 : decode bX11_frozen 26 = .ok (.iaload, 1) := by decide +kernel
theorem dX11_frozen_27 : decode bX11_frozen 27 = .ok (.ireturn, 1) := by decide +kernel
theorem dX11_sets_0 : decode bX11_sets 0 = .ok (.aload_n 0, 1) := by decide +kernel
theorem dX11_sets_1 : decode bX11_sets 1 = .ok (.iconst 0, 1) := by decide +kernel
theorem dX11_sets_2 : decode bX11_sets 2 = .ok (.putfield 77, 3) := by decide +kernel
theorem dX11_sets_5 : decode bX11_sets 5 = .ok (.aload_n 0, 1) := by decide +kernel
theorem dX11_sets_6 : decode bX11_sets 6 = .ok (.iload_n 1, 1) := by decide +kernel
theorem dX11_sets_7 : decode bX11_sets 7 = .ok (.i2l, 1) := by decide +kernel
theorem dX11_sets_8 : decode bX11_sets 8 = .ok (.invokevirtual 237, 3) := by decide +kernel
theorem dX11_sets_11 : decode bX11_sets 11 = .ok (.ifCond .ne 6, 3) := by decide +kernel
theorem dX11_sets_14 : decode bX11_sets 14 = .ok (.bipush (-2), 2) := by decide +kernel
theorem dX11_sets_16 : decode bX11_sets 16 = .ok (.ireturn, 1) := by decide +kernel
theorem dX11_sets_17 : decode bX11_sets 17 = .ok (.aload_n 0, 1) := by decide +kernel
theorem dX11_sets_18 : decode bX11_sets 18 = .ok (.invokevirtual 311, 3) := by decide +kernel
theorem dX11_sets_21 : decode bX11_sets 21 = .ok (.aload_n 0, 1) := by decide +kernel
theorem dX11_sets_22 : decode bX11_sets 22 = .ok (.getfield 68, 3) := by decide +kernel
theorem dX11_sets_25 : decode bX11_sets 25 = .ok (.iload_n 1, 1) := by decide +kernel
theorem dX11_sets_26 : decode bX11_sets 26 = .ok (.iaload, 1) := by decide +kernel
theorem dX11_sets_27 : decode bX11_sets 27 = .ok (.ireturn, 1) := by decide +kernel
theorem dX11_cracks_0 : decode bX11_cracks 0 = .ok (.aload_n 0, 1) := by decide +kernel
theorem dX11_cracks_1 : decode bX11_cracks 1 = .ok (.iconst 0, 1) := by decide +kernel
theorem dX11_cracks_2 : decode bX11_cracks 2 = .ok (.putfield 77, 3) := by decide +kernel
theorem dX11_cracks_5 : decode bX11_cracks 5 = .ok (.aload_n 0, 1) := by decide +kernel
theorem dX11_cracks_6 : decode bX11_cracks 6 = .ok (.iload_n 1, 1) := by decide +kernel
theorem dX11_cracks_7 : decode bX11_cracks 7 = .ok (.i2l, 1) := by decide +kernel
theorem dX11_cracks_8 : decode bX11_cracks 8 = .ok (.invokevirtual 237, 3) := by decide +kernel
theorem dX11_cracks_11 : decode bX11_cracks 11 = .ok (.ifCond .ne 6, 3) := by decide +kernel
theorem dX11_cracks_14 : decode bX11_cracks 14 = .ok (.bipush (-2), 2) := by decide +kernel
theorem dX11_cracks_16 : decode bX11_cracks 16 = .ok (.ireturn, 1) := by decide +kernel
theorem dX11_cracks_17 : decode bX11_cracks 17 = .ok (.aload_n 0, 1) := by decide +kernel
theorem dX11_cracks_18 : decode bX11_cracks 18 = .ok (.invokevirtual 311, 3) := by decide +kernel
theorem dX11_cracks_21 : decode bX11_cracks 21 = .ok (.aload_n 0, 1) := by decide +kernel
theorem dX11_cracks_22 : decode bX11_cracks 22 = .ok (.getfield 71, 3) := by decide +kernel
theorem dX11_cracks_25 : decode bX11_cracks 25 = .ok (.iload_n 1, 1) := by decide +kernel
theorem dX11_cracks_26 : decode bX11_cracks 26 = .ok (.iaload, 1) := by decide +kernel
theorem dX11_cracks_27 : decode bX11_cracks 27 = .ok (.ireturn, 1) := by decide +kernel
theorem dX11_why_0 : decode bX11_why 0 = .ok (.aload_n 0, 1) := by decide +kernel
theorem dX11_why_1 : decode bX11_why 1 = .ok (.iconst 0, 1) := by decide +kernel
theorem dX11_why_2 : decode bX11_why 2 = .ok (.putfield 77, 3) := by decide +kernel
theorem dX11_why_5 : decode bX11_why 5 = .ok (.aload_n 0, 1) := by decide +kernel
theorem dX11_why_6 : decode bX11_why 6 = .ok (.iload_n 1, 1) := by decide +kernel
theorem dX11_why_7 : decode bX11_why 7 = .ok (.i2l, 1) := by decide +kernel
theorem dX11_why_8 : decode bX11_why 8 = .ok (.invokevirtual 237, 3) := by decide +kernel
theorem dX11_why_11 : decode bX11_why 11 = .ok (.ifCond .ne 6, 3) := by decide +kernel
theorem dX11_why_14 : decode bX11_why 14 = .ok (.bipush (-2), 2) := by decide +kernel
theorem dX11_why_16 : decode bX11_why 16 = .ok (.ireturn, 1) := by decide +kernel
theorem dX11_why_17 : decode bX11_why 17 = .ok (.aload_n 0, 1) := by decide +kernel
theorem dX11_why_18 : decode bX11_why 18 = .ok (.invokevirtual 311, 3) := by decide +kernel
theorem dX11_why_21 : decode bX11_why 21 = .ok (.aload_n 0, 1) := by decide +kernel
theorem dX11_why_22 : decode bX11_why 22 = .ok (.getfield 74, 3) := by decide +kernel
theorem dX11_why_25 : decode bX11_why 25 = .ok (.iload_n 1, 1) := by decide +kernel
theorem dX11_why_26 : decode bX11_why 26 = .ok (.iaload, 1) := by decide +kernel
theorem dX11_why_27 : decode bX11_why 27 = .ok (.ireturn, 1) := by decide +kernel
theorem dX11_whole_0 : decode bX11_whole 0 = .ok (.aload_n 0, 1) := by decide +kernel
theorem dX11_whole_1 : decode bX11_whole 1 = .ok (.iconst 0, 1) := by decide +kernel
theorem dX11_whole_2 : decode bX11_whole 2 = .ok (.putfield 77, 3) := by decide +kernel
theorem dX11_whole_5 : decode bX11_whole 5 = .ok (.aload_n 0, 1) := by decide +kernel
theorem dX11_whole_6 : decode bX11_whole 6 = .ok (.iload_n 1, 1) := by decide +kernel
theorem dX11_whole_7 : decode bX11_whole 7 = .ok (.i2l, 1) := by decide +kernel
theorem dX11_whole_8 : decode bX11_whole 8 = .ok (.invokevirtual 240, 3) := by decide +kernel
theorem dX11_whole_11 : decode bX11_whole 11 = .ok (.ifCond .ne 6, 3) := by decide +kernel
theorem dX11_whole_14 : decode bX11_whole 14 = .ok (.bipush (-2), 2) := by decide +kernel
theorem dX11_whole_16 : decode bX11_whole 16 = .ok (.ireturn, 1) := by decide +kernel
theorem dX11_whole_17 : decode bX11_whole 17 = .ok (.aload_n 0, 1) := by decide +kernel
theorem dX11_whole_18 : decode bX11_whole 18 = .ok (.invokevirtual 311, 3) := by decide +kernel
theorem dX11_whole_21 : decode bX11_whole 21 = .ok (.iconst 0, 1) := by decide +kernel
theorem dX11_whole_22 : decode bX11_whole 22 = .ok (.istore_n 2, 1) := by decide +kernel
theorem dX11_whole_23 : decode bX11_whole 23 = .ok (.iconst 0, 1) := by decide +kernel
theorem dX11_whole_24 : decode bX11_whole 24 = .ok (.istore_n 3, 1) := by decide +kernel
theorem dX11_whole_25 : decode bX11_whole 25 = .ok (.iload_n 3, 1) := by decide +kernel
theorem dX11_whole_26 : decode bX11_whole 26 = .ok (.aload_n 0, 1) := by decide +kernel
theorem dX11_whole_27 : decode bX11_whole 27 = .ok (.invokevirtual 227, 3) := by decide +kernel
theorem dX11_whole_30 : decode bX11_whole 30 = .ok (.if_icmp .ge 37, 3) := by decide +kernel
theorem dX11_whole_33 : decode bX11_whole 33 = .ok (.iload_n 2, 1) := by decide +kernel
theorem dX11_whole_34 : decode bX11_whole 34 = .ok (.aload_n 0, 1) := by decide +kernel
theorem dX11_whole_35 : decode bX11_whole 35 = .ok (.iload_n 3, 1) := by decide +kernel
theorem dX11_whole_36 : decode bX11_whole 36 = .ok (.iload_n 1, 1) := by decide +kernel
theorem dX11_whole_37 : decode bX11_whole 37 = .ok (.invokevirtual 317, 3) := by decide +kernel
theorem dX11_whole_40 : decode bX11_whole 40 = .ok (.ifCond .eq 18, 3) := by decide +kernel
theorem dX11_whole_43 : decode bX11_whole 43 = .ok (.aload_n 0, 1) := by decide +kernel
theorem dX11_whole_44 : decode bX11_whole 44 = .ok (.iload_n 3, 1) := by decide +kernel
theorem dX11_whole_45 : decode bX11_whole 45 = .ok (.iload_n 1, 1) := by decide +kernel
theorem dX11_whole_46 : decode bX11_whole 46 = .ok (.invokevirtual 320, 3) := by decide +kernel
theorem dX11_whole_49 : decode bX11_whole 49 = .ok (.ifCond .eq 9, 3) := by decide +kernel
theorem dX11_whole_52 : decode bX11_whole 52 = .ok (.iconst 1, 1) := by decide +kernel
theorem dX11_whole_53 : decode bX11_whole 53 = .ok (.iload_n 3, 1) := by decide +kernel
theorem dX11_whole_54 : decode bX11_whole 54 = .ok (.ishl, 1) := by decide +kernel
theorem dX11_whole_55 : decode bX11_whole 55 = .ok (.goto 4, 3) := by decide +kernel
theorem dX11_whole_58 : decode bX11_whole 58 = .ok (.iconst 0, 1) := by decide +kernel
theorem dX11_whole_59 : decode bX11_whole 59 = .ok (.ior, 1) := by decide +kernel
theorem dX11_whole_60 : decode bX11_whole 60 = .ok (.istore_n 2, 1) := by decide +kernel
theorem dX11_whole_61 : decode bX11_whole 61 = .ok (.iinc 3 1, 3) := by decide +kernel
theorem dX11_whole_64 : decode bX11_whole 64 = .ok (.goto (-39), 3) := by decide +kernel
theorem dX11_whole_67 : decode bX11_whole 67 = .ok (.iload_n 2, 1) := by decide +kernel
theorem dX11_whole_68 : decode bX11_whole 68 = .ok (.ireturn, 1) := by decide +kernel
theorem dX11_sound_0 : decode bX11_sound 0 = .ok (.aload_n 0, 1) := by decide +kernel
theorem dX11_sound_1 : decode bX11_sound 1 = .ok (.iconst 0, 1) := by decide +kernel
theorem dX11_sound_2 : decode bX11_sound 2 = .ok (.putfield 77, 3) := by decide +kernel
theorem dX11_sound_5 : decode bX11_sound 5 = .ok (.aload_n 0, 1) := by decide +kernel
theorem dX11_sound_6 : decode bX11_sound 6 = .ok (.invokevirtual 231, 3) := by decide +kernel
theorem dX11_sound_9 : decode bX11_sound 9 = .ok (.ifCond .ne 6, 3) := by decide +kernel
theorem dX11_sound_12 : decode bX11_sound 12 = .ok (.bipush (-2), 2) := by decide +kernel
theorem dX11_sound_14 : decode bX11_sound 14 = .ok (.ireturn, 1) := by decide +kernel
theorem dX11_sound_15 : decode bX11_sound 15 = .ok (.aload_n 0, 1) := by decide +kernel
theorem dX11_sound_16 : decode bX11_sound 16 = .ok (.invokevirtual 311, 3) := by decide +kernel
theorem dX11_sound_19 : decode bX11_sound 19 = .ok (.aload_n 0, 1) := by decide +kernel
theorem dX11_sound_20 : decode bX11_sound 20 = .ok (.invokevirtual 323, 3) := by decide +kernel
theorem dX11_sound_23 : decode bX11_sound 23 = .ok (.ireturn, 1) := by decide +kernel
theorem dX11_good_0 : decode bX11_good 0 = .ok (.aload_n 0, 1) := by decide +kernel
theorem dX11_good_1 : decode bX11_good 1 = .ok (.iconst 0, 1) := by decide +kernel
theorem dX11_good_2 : decode bX11_good 2 = .ok (.putfield 77, 3) := by decide +kernel
theorem dX11_good_5 : decode bX11_good 5 = .ok (.aload_n 0, 1) := by decide +kernel
theorem dX11_good_6 : decode bX11_good 6 = .ok (.invokevirtual 231, 3) := by decide +kernel
theorem dX11_good_9 : decode bX11_good 9 = .ok (.ifCond .ne 6, 3) := by decide +kernel
theorem dX11_good_12 : decode bX11_good 12 = .ok (.bipush (-2), 2) := by decide +kernel
theorem dX11_good_14 : decode bX11_good 14 = .ok (.ireturn, 1) := by decide +kernel
theorem dX11_good_15 : decode bX11_good 15 = .ok (.aload_n 0, 1) := by decide +kernel
theorem dX11_good_16 : decode bX11_good 16 = .ok (.invokevirtual 311, 3) := by decide +kernel
theorem dX11_good_19 : decode bX11_good 19 = .ok (.aload_n 0, 1) := by decide +kernel
theorem dX11_good_20 : decode bX11_good 20 = .ok (.bipush 10, 2) := by decide +kernel
theorem dX11_good_22 : decode bX11_good 22 = .ok (.aload_n 0, 1) := by decide +kernel
theorem dX11_good_23 : decode bX11_good 23 = .ok (.invokevirtual 234, 3) := by decide +kernel
theorem dX11_good_26 : decode bX11_good 26 = .ok (.invokevirtual 308, 3) := by decide +kernel
theorem dX11_good_29 : decode bX11_good 29 = .ok (.aload_n 0, 1) := by decide +kernel
theorem dX11_good_30 : decode bX11_good 30 = .ok (.invokevirtual 323, 3) := by decide +kernel
theorem dX11_good_33 : decode bX11_good 33 = .ok (.iand, 1) := by decide +kernel
theorem dX11_good_34 : decode bX11_good 34 = .ok (.ireturn, 1) := by decide +kernel
theorem dX11_markOf_0 : decode bX11_markOf 0 = .ok (.iload_n 3, 1) := by decide +kernel
theorem dX11_markOf_1 : decode bX11_markOf 1 = .ok (.ifCond .ne 12, 3) := by decide +kernel
theorem dX11_markOf_4 : decode bX11_markOf 4 = .ok (.aload_n 0, 1) := by decide +kernel
theorem dX11_markOf_5 : decode bX11_markOf 5 = .ok (.iload_n 1, 1) := by decide +kernel
theorem dX11_markOf_6 : decode bX11_markOf 6 = .ok (.iload_n 2, 1) := by decide +kernel
theorem dX11_markOf_7 : decode bX11_markOf 7 = .ok (.invokevirtual 290, 3) := by decide +kernel
theorem dX11_markOf_10 : decode bX11_markOf 10 = .ok (.goto 23, 3) := by decide +kernel
theorem dX11_markOf_13 : decode bX11_markOf 13 = .ok (.iload_n 3, 1) := by decide +kernel
theorem dX11_markOf_14 : decode bX11_markOf 14 = .ok (.iconst 1, 1) := by decide +kernel
theorem dX11_markOf_15 : decode bX11_markOf 15 = .ok (.if_icmp .ne 12, 3) := by decide +kernel
theorem dX11_markOf_18 : decode bX11_markOf 18 = .ok (.aload_n 0, 1) := by decide +kernel
theorem dX11_markOf_19 : decode bX11_markOf 19 = .ok (.iload_n 1, 1) := by decide +kernel
theorem dX11_markOf_20 : decode bX11_markOf 20 = .ok (.iload_n 2, 1) := by decide +kernel
theorem dX11_markOf_21 : decode bX11_markOf 21 = .ok (.invokevirtual 268, 3) := by decide +kernel
theorem dX11_markOf_24 : decode bX11_markOf 24 = .ok (.goto 9, 3) := by decide +kernel
theorem dX11_markOf_27 : decode bX11_markOf 27 = .ok (.aload_n 0, 1) := by decide +kernel
theorem dX11_markOf_28 : decode bX11_markOf 28 = .ok (.iload_n 1, 1) := by decide +kernel
theorem dX11_markOf_29 : decode bX11_markOf 29 = .ok (.iload_n 2, 1) := by decide +kernel
theorem dX11_markOf_30 : decode bX11_markOf 30 = .ok (.invokevirtual 271, 3) := by decide +kernel
theorem dX11_markOf_33 : decode bX11_markOf 33 = .ok (.ireturn, 1) := by decide +kernel
theorem dX11_mostAt_0 : decode bX11_mostAt 0 = .ok (.iconst (-1), 1) := by decide +kernel
theorem dX11_mostAt_1 : decode bX11_mostAt 1 = .ok (.istore_n 3, 1) := by decide +kernel
theorem dX11_mostAt_2 : decode bX11_mostAt 2 = .ok (.iconst 0, 1) := by decide +kernel
theorem dX11_mostAt_3 : decode bX11_mostAt 3 = .ok (.istore 4, 2) := by decide +kernel
theorem dX11_mostAt_5 : decode bX11_mostAt 5 = .ok (.iload 4, 2) := by decide +kernel
theorem dX11_mostAt_7 : decode bX11_mostAt 7 = .ok (.aload_n 0, 1) := by decide +kernel
theorem dX11_mostAt_8 : decode bX11_mostAt 8 = .ok (.invokevirtual 227, 3) := by decide +kernel
theorem dX11_mostAt_11 : decode bX11_mostAt 11 = .ok (.if_icmp .ge 45, 3) := by decide +kernel
theorem dX11_mostAt_14 : decode bX11_mostAt 14 = .ok (.aload_n 0, 1) := by decide +kernel
theorem dX11_mostAt_15 : decode bX11_mostAt 15 = .ok (.iload 4, 2) := by decide +kernel
theorem dX11_mostAt_17 : decode bX11_mostAt 17 = .ok (.iload_n 1, 1) := by decide +kernel
theorem dX11_mostAt_18 : decode bX11_mostAt 18 = .ok (.invokevirtual 317, 3) := by decide +kernel
theorem dX11_mostAt_21 : decode bX11_mostAt 21 = .ok (.ifCond .eq 29, 3) := by decide +kernel
theorem dX11_mostAt_24 : decode bX11_mostAt 24 = .ok (.iload_n 3, 1) := by decide +kernel
theorem dX11_mostAt_25 : decode bX11_mostAt 25 = .ok (.iconst (-1), 1) := by decide +kernel
theorem dX11_mostAt_26 : decode bX11_mostAt 26 = .ok (.if_icmp .eq 21, 3) := by decide +kernel
theorem dX11_mostAt_29 : decode bX11_mostAt 29 = .ok (.aload_n 0, 1) := by decide +kernel
theorem dX11_mostAt_30 : decode bX11_mostAt 30 = .ok (.iload 4, 2) := by decide +kernel
theorem dX11_mostAt_32 : decode bX11_mostAt 32 = .ok (.iload_n 1, 1) := by decide +kernel
theorem dX11_mostAt_33 : decode bX11_mostAt 33 = .ok (.iload_n 2, 1) := by decide +kernel
theorem dX11_mostAt_34 : decode bX11_mostAt 34 = .ok (.invokevirtual 326, 3) := by decide +kernel
theorem dX11_mostAt_37 : decode bX11_mostAt 37 = .ok (.aload_n 0, 1) := by decide +kernel
theorem dX11_mostAt_38 : decode bX11_mostAt 38 = .ok (.iload_n 3, 1) := by decide +kernel
theorem dX11_mostAt_39 : decode bX11_mostAt 39 = .ok (.iload_n 1, 1) := by decide +kernel
theorem dX11_mostAt_40 : decode bX11_mostAt 40 = .ok (.iload_n 2, 1) := by decide +kernel
theorem dX11_mostAt_41 : decode bX11_mostAt 41 = .ok (.invokevirtual 326, 3) := by decide +kernel
theorem dX11_mostAt_44 : decode bX11_mostAt 44 = .ok (.if_icmp .le 6, 3) := by decide +kernel
theorem dX11_mostAt_47 : decode bX11_mostAt 47 = .ok (.iload 4, 2) := by decide +kernel
theorem dX11_mostAt_49 : decode bX11_mostAt 49 = .ok (.istore_n 3, 1) := by decide +kernel
theorem dX11_mostAt_50 : decode bX11_mostAt 50 = .ok (.iinc 4 1, 3) := by decide +kernel
theorem dX11_mostAt_53 : decode bX11_mostAt 53 = .ok (.goto (-48), 3) := by decide +kernel
theorem dX11_mostAt_56 : decode bX11_mostAt 56 = .ok (.iload_n 3, 1) := by decide +kernel
theorem dX11_mostAt_57 : decode bX11_mostAt 57 = .ok (.ireturn, 1) := by decide +kernel
theorem dX11_tight_0 : decode bX11_tight 0 = .ok (.aload_n 0, 1) := by decide +kernel
theorem dX11_tight_1 : decode bX11_tight 1 = .ok (.iconst 0, 1) := by decide +kernel
theorem dX11_tight_2 : decode bX11_tight 2 = .ok (.putfield 77, 3) := by decide +kernel
theorem dX11_tight_5 : decode bX11_tight 5 = .ok (.aload_n 0, 1) := by decide +kernel
theorem dX11_tight_6 : decode bX11_tight 6 = .ok (.iload_n 1, 1) := by decide +kernel
theorem dX11_tight_7 : decode bX11_tight 7 = .ok (.i2l, 1) := by decide +kernel
theorem dX11_tight_8 : decode bX11_tight 8 = .ok (.invokevirtual 240, 3) := by decide +kernel
theorem dX11_tight_11 : decode bX11_tight 11 = .ok (.ifCond .ne 6, 3) := by decide +kernel
theorem dX11_tight_14 : decode bX11_tight 14 = .ok (.bipush (-2), 2) := by decide +kernel
theorem dX11_tight_16 : decode bX11_tight 16 = .ok (.ireturn, 1) := by decide +kernel
theorem dX11_tight_17 : decode bX11_tight 17 = .ok (.aload_n 0, 1) := by decide +kernel
theorem dX11_tight_18 : decode bX11_tight 18 = .ok (.invokevirtual 311, 3) := by decide +kernel
theorem dX11_tight_21 : decode bX11_tight 21 = .ok (.aload_n 0, 1) := by decide +kernel
theorem dX11_tight_22 : decode bX11_tight 22 = .ok (.iload_n 1, 1) := by decide +kernel
theorem dX11_tight_23 : decode bX11_tight 23 = .ok (.iconst 0, 1) := by decide +kernel
theorem dX11_tight_24 : decode bX11_tight 24 = .ok (.invokevirtual 329, 3) := by decide +kernel
theorem dX11_tight_27 : decode bX11_tight 27 = .ok (.ireturn, 1) := by decide +kernel
theorem dX11_hottest_0 : decode bX11_hottest 0 = .ok (.aload_n 0, 1) := by decide +kernel
theorem dX11_hottest_1 : decode bX11_hottest 1 = .ok (.iconst 0, 1) := by decide +kernel
theorem dX11_hottest_2 : decode bX11_hottest 2 = .ok (.putfield 77, 3) := by decide +kernel
theorem dX11_hottest_5 : decode bX11_hottest 5 = .ok (.aload_n 0, 1) := by decide +kernel
theorem dX11_hottest_6 : decode bX11_hottest 6 = .ok (.iload_n 1, 1) := by decide +kernel
theorem dX11_hottest_7 : decode bX11_hottest 7 = .ok (.i2l, 1) := by decide +kernel
theorem dX11_hottest_8 : decode bX11_hottest 8 = .ok (.invokevirtual 240, 3) := by decide +kernel
theorem dX11_hottest_11 : decode bX11_hottest 11 = .ok (.ifCond .ne 6, 3) := by decide +kernel
theorem dX11_hottest_14 : decode bX11_hottest 14 = .ok (.bipush (-2), 2) := by decide +kernel
theorem dX11_hottest_16 : decode bX11_hottest 16 = .ok (.ireturn, 1) := by decide +kernel
theorem dX11_hottest_17 : decode bX11_hottest 17 = .ok (.aload_n 0, 1) := by decide +kernel
theorem dX11_hottest_18 : decode bX11_hottest 18 = .ok (.invokevirtual 311, 3) := by decide +kernel
theorem dX11_hottest_21 : decode bX11_hottest 21 = .ok (.aload_n 0, 1) := by decide +kernel
theorem dX11_hottest_22 : decode bX11_hottest 22 = .ok (.iload_n 1, 1) := by decide +kernel
theorem dX11_hottest_23 : decode bX11_hottest 23 = .ok (.iconst 1, 1) := by decide +kernel
theorem dX11_hottest_24 : decode bX11_hottest 24 = .ok (.invokevirtual 329, 3) := by decide +kernel
theorem dX11_hottest_27 : decode bX11_hottest 27 = .ok (.ireturn, 1) := by decide +kernel
theorem dX11_kernel_0 : decode bX11_kernel 0 = .ok (.aload_n 0, 1) := by decide +kernel
theorem dX11_kernel_1 : decode bX11_kernel 1 = .ok (.iconst 0, 1) := by decide +kernel
theorem dX11_kernel_2 : decode bX11_kernel 2 = .ok (.putfield 77, 3) := by decide +kernel
theorem dX11_kernel_5 : decode bX11_kernel 5 = .ok (.aload_n 0, 1) := by decide +kernel
theorem dX11_kernel_6 : decode bX11_kernel 6 = .ok (.iload_n 1, 1) := by decide +kernel
theorem dX11_kernel_7 : decode bX11_kernel 7 = .ok (.i2l, 1) := by decide +kernel
theorem dX11_kernel_8 : decode bX11_kernel 8 = .ok (.invokevirtual 240, 3) := by decide +kernel
theorem dX11_kernel_11 : decode bX11_kernel 11 = .ok (.ifCond .ne 6, 3) := by decide +kernel
theorem dX11_kernel_14 : decode bX11_kernel 14 = .ok (.bipush (-2), 2) := by decide +kernel
theorem dX11_kernel_16 : decode bX11_kernel 16 = .ok (.ireturn, 1) := by decide +kernel
theorem dX11_kernel_17 : decode bX11_kernel 17 = .ok (.aload_n 0, 1) := by decide +kernel
theorem dX11_kernel_18 : decode bX11_kernel 18 = .ok (.invokevirtual 311, 3) := by decide +kernel
theorem dX11_kernel_21 : decode bX11_kernel 21 = .ok (.aload_n 0, 1) := by decide +kernel
theorem dX11_kernel_22 : decode bX11_kernel 22 = .ok (.iload_n 1, 1) := by decide +kernel
theorem dX11_kernel_23 : decode bX11_kernel 23 = .ok (.iconst 2, 1) := by decide +kernel
theorem dX11_kernel_24 : decode bX11_kernel 24 = .ok (.invokevirtual 329, 3) := by decide +kernel
theorem dX11_kernel_27 : decode bX11_kernel 27 = .ok (.ireturn, 1) := by decide +kernel
theorem dX11_glow_0 : decode bX11_glow 0 = .ok (.aload_n 0, 1) := by decide +kernel
theorem dX11_glow_1 : decode bX11_glow 1 = .ok (.iconst 0, 1) := by decide +kernel
theorem dX11_glow_2 : decode bX11_glow 2 = .ok (.putfield 77, 3) := by decide +kernel
theorem dX11_glow_5 : decode bX11_glow 5 = .ok (.aload_n 0, 1) := by decide +kernel
theorem dX11_glow_6 : decode bX11_glow 6 = .ok (.iload_n 1, 1) := by decide +kernel
theorem dX11_glow_7 : decode bX11_glow 7 = .ok (.i2l, 1) := by decide +kernel
theorem dX11_glow_8 : decode bX11_glow 8 = .ok (.invokevirtual 240, 3) := by decide +kernel
theorem dX11_glow_11 : decode bX11_glow 11 = .ok (.ifCond .ne 6, 3) := by decide +kernel
theorem dX11_glow_14 : decode bX11_glow 14 = .ok (.bipush (-2), 2) := by decide +kernel
theorem dX11_glow_16 : decode bX11_glow 16 = .ok (.ireturn, 1) := by decide +kernel
theorem dX11_glow_17 : decode bX11_glow 17 = .ok (.aload_n 0, 1) := by decide +kernel
theorem dX11_glow_18 : decode bX11_glow 18 = .ok (.invokevirtual 311, 3) := by decide +kernel
theorem dX11_glow_21 : decode bX11_glow 21 = .ok (.iconst 0, 1) := by decide +kernel
theorem dX11_glow_22 : decode bX11_glow 22 = .ok (.istore_n 2, 1) := by decide +kernel
theorem dX11_glow_23 : decode bX11_glow 23 = .ok (.iconst 0, 1) := by decide +kernel
theorem dX11_glow_24 : decode bX11_glow 24 = .ok (.istore_n 3, 1) := by decide +kernel
theorem dX11_glow_25 : decode bX11_glow 25 = .ok (.iload_n 3, 1) := by decide +kernel
theorem dX11_glow_26 : decode bX11_glow 26 = .ok (.aload_n 0, 1) := by decide +kernel
theorem dX11_glow_27 : decode bX11_glow 27 = .ok (.invokevirtual 227, 3) := by decide +kernel
theorem dX11_glow_30 : decode bX11_glow 30 = .ok (.if_icmp .ge 31, 3) := by decide +kernel
theorem dX11_glow_33 : decode bX11_glow 33 = .ok (.iload_n 2, 1) := by decide +kernel
theorem dX11_glow_34 : decode bX11_glow 34 = .ok (.aload_n 0, 1) := by decide +kernel
theorem dX11_glow_35 : decode bX11_glow 35 = .ok (.iload_n 3, 1) := by decide +kernel
theorem dX11_glow_36 : decode bX11_glow 36 = .ok (.iload_n 1, 1) := by decide +kernel
theorem dX11_glow_37 : decode bX11_glow 37 = .ok (.invokevirtual 317, 3) := by decide +kernel
theorem dX11_glow_40 : decode bX11_glow 40 = .ok (.ifCond .eq 12, 3) := by decide +kernel
theorem dX11_glow_43 : decode bX11_glow 43 = .ok (.aload_n 0, 1) := by decide +kernel
theorem dX11_glow_44 : decode bX11_glow 44 = .ok (.iload_n 3, 1) := by decide +kernel
theorem dX11_glow_45 : decode bX11_glow 45 = .ok (.iload_n 1, 1) := by decide +kernel
theorem dX11_glow_46 : decode bX11_glow 46 = .ok (.invokevirtual 268, 3) := by decide +kernel
theorem dX11_glow_49 : decode bX11_glow 49 = .ok (.goto 4, 3) := by decide +kernel
theorem dX11_glow_52 : decode bX11_glow 52 = .ok (.iconst 0, 1) := by decide +kernel
theorem dX11_glow_53 : decode bX11_glow 53 = .ok (.iadd, 1) := by decide +kernel
theorem dX11_glow_54 : decode bX11_glow 54 = .ok (.istore_n 2, 1) := by decide +kernel
theorem dX11_glow_55 : decode bX11_glow 55 = .ok (.iinc 3 1, 3) := by decide +kernel
theorem dX11_glow_58 : decode bX11_glow 58 = .ok (.goto (-33), 3) := by decide +kernel
theorem dX11_glow_61 : decode bX11_glow 61 = .ok (.iload_n 2, 1) := by decide +kernel
theorem dX11_glow_62 : decode bX11_glow 62 = .ok (.ireturn, 1) := by decide +kernel
theorem dX11_crackedIn_0 : decode bX11_crackedIn 0 = .ok (.iconst 0, 1) := by decide +kernel
theorem dX11_crackedIn_1 : decode bX11_crackedIn 1 = .ok (.istore_n 2, 1) := by decide +kernel
theorem dX11_crackedIn_2 : decode bX11_crackedIn 2 = .ok (.iconst 0, 1) := by decide +kernel
theorem dX11_crackedIn_3 : decode bX11_crackedIn 3 = .ok (.istore_n 3, 1) := by decide +kernel
theorem dX11_crackedIn_4 : decode bX11_crackedIn 4 = .ok (.iload_n 3, 1) := by decide +kernel
theorem dX11_crackedIn_5 : decode bX11_crackedIn 5 = .ok (.aload_n 0, 1) := by decide +kernel
theorem dX11_crackedIn_6 : decode bX11_crackedIn 6 = .ok (.invokevirtual 227, 3) := by decide +kernel
theorem dX11_crackedIn_9 : decode bX11_crackedIn 9 = .ok (.if_icmp .ge 29, 3) := by decide +kernel
theorem dX11_crackedIn_12 : decode bX11_crackedIn 12 = .ok (.iload_n 2, 1) := by decide +kernel
theorem dX11_crackedIn_13 : decode bX11_crackedIn 13 = .ok (.aload_n 0, 1) := by decide +kernel
theorem dX11_crackedIn_14 : decode bX11_crackedIn 14 = .ok (.getfield 71, 3) := by decide +kernel
theorem dX11_crackedIn_17 : decode bX11_crackedIn 17 = .ok (.iload_n 3, 1) := by decide +kernel
theorem dX11_crackedIn_18 : decode bX11_crackedIn 18 = .ok (.iaload, 1) := by decide +kernel
theorem dX11_crackedIn_19 : decode bX11_crackedIn 19 = .ok (.iload_n 1, 1) := by decide +kernel
theorem dX11_crackedIn_20 : decode bX11_crackedIn 20 = .ok (.if_icmp .ne 9, 3) := by decide +kernel
theorem dX11_crackedIn_23 : decode bX11_crackedIn 23 = .ok (.iconst 1, 1) := by decide +kernel
theorem dX11_crackedIn_24 : decode bX11_crackedIn 24 = .ok (.iload_n 3, 1) := by decide +kernel
theorem dX11_crackedIn_25 : decode bX11_crackedIn 25 = .ok (.ishl, 1) := by decide +kernel
theorem dX11_crackedIn_26 : decode bX11_crackedIn 26 = .ok (.goto 4, 3) := by decide +kernel
theorem dX11_crackedIn_29 : decode bX11_crackedIn 29 = .ok (.iconst 0, 1) := by decide +kernel
theorem dX11_crackedIn_30 : decode bX11_crackedIn 30 = .ok (.ior, 1) := by decide +kernel
theorem dX11_crackedIn_31 : decode bX11_crackedIn 31 = .ok (.istore_n 2, 1) := by decide +kernel
theorem dX11_crackedIn_32 : decode bX11_crackedIn 32 = .ok (.iinc 3 1, 3) := by decide +kernel
theorem dX11_crackedIn_35 : decode bX11_crackedIn 35 = .ok (.goto (-31), 3) := by decide +kernel
theorem dX11_crackedIn_38 : decode bX11_crackedIn 38 = .ok (.iload_n 2, 1) := by decide +kernel
theorem dX11_crackedIn_39 : decode bX11_crackedIn 39 = .ok (.ireturn, 1) := by decide +kernel
theorem dX11_worst_0 : decode bX11_worst 0 = .ok (.aload_n 0, 1) := by decide +kernel
theorem dX11_worst_1 : decode bX11_worst 1 = .ok (.iconst 0, 1) := by decide +kernel
theorem dX11_worst_2 : decode bX11_worst 2 = .ok (.putfield 77, 3) := by decide +kernel
theorem dX11_worst_5 : decode bX11_worst 5 = .ok (.aload_n 0, 1) := by decide +kernel
theorem dX11_worst_6 : decode bX11_worst 6 = .ok (.invokevirtual 231, 3) := by decide +kernel
theorem dX11_worst_9 : decode bX11_worst 9 = .ok (.ifCond .ne 6, 3) := by decide +kernel
theorem dX11_worst_12 : decode bX11_worst 12 = .ok (.bipush (-2), 2) := by decide +kernel
theorem dX11_worst_14 : decode bX11_worst 14 = .ok (.ireturn, 1) := by decide +kernel
theorem dX11_worst_15 : decode bX11_worst 15 = .ok (.aload_n 0, 1) := by decide +kernel
theorem dX11_worst_16 : decode bX11_worst 16 = .ok (.invokevirtual 311, 3) := by decide +kernel
theorem dX11_worst_19 : decode bX11_worst 19 = .ok (.iconst (-1), 1) := by decide +kernel
theorem dX11_worst_20 : decode bX11_worst 20 = .ok (.istore_n 1, 1) := by decide +kernel
theorem dX11_worst_21 : decode bX11_worst 21 = .ok (.iconst 0, 1) := by decide +kernel
theorem dX11_worst_22 : decode bX11_worst 22 = .ok (.istore_n 2, 1) := by decide +kernel
theorem dX11_worst_23 : decode bX11_worst 23 = .ok (.iload_n 2, 1) := by decide +kernel
theorem dX11_worst_24 : decode bX11_worst 24 = .ok (.aload_n 0, 1) := by decide +kernel
theorem dX11_worst_25 : decode bX11_worst 25 = .ok (.invokevirtual 234, 3) := by decide +kernel
theorem dX11_worst_28 : decode bX11_worst 28 = .ok (.if_icmp .gt 39, 3) := by decide +kernel
theorem dX11_worst_31 : decode bX11_worst 31 = .ok (.aload_n 0, 1) := by decide +kernel
theorem dX11_worst_32 : decode bX11_worst 32 = .ok (.iload_n 2, 1) := by decide +kernel
theorem dX11_worst_33 : decode bX11_worst 33 = .ok (.invokevirtual 332, 3) := by decide +kernel
theorem dX11_worst_36 : decode bX11_worst 36 = .ok (.invokestatic 335, 3) := by decide +kernel
theorem dX11_worst_39 : decode bX11_worst 39 = .ok (.iload_n 1, 1) := by decide +kernel
theorem dX11_worst_40 : decode bX11_worst 40 = .ok (.iconst (-1), 1) := by decide +kernel
theorem dX11_worst_41 : decode bX11_worst 41 = .ok (.if_icmp .ne 7, 3) := by decide +kernel
theorem dX11_worst_44 : decode bX11_worst 44 = .ok (.iconst 0, 1) := by decide +kernel
theorem dX11_worst_45 : decode bX11_worst 45 = .ok (.goto 11, 3) := by decide +kernel
theorem dX11_worst_48 : decode bX11_worst 48 = .ok (.aload_n 0, 1) := by decide +kernel
theorem dX11_worst_49 : decode bX11_worst 49 = .ok (.iload_n 1, 1) := by decide +kernel
theorem dX11_worst_50 : decode bX11_worst 50 = .ok (.invokevirtual 332, 3) := by decide +kernel
theorem dX11_worst_53 : decode bX11_worst 53 = .ok (.invokestatic 335, 3) := by decide +kernel
theorem dX11_worst_56 : decode bX11_worst 56 = .ok (.if_icmp .le 5, 3) := by decide +kernel
theorem dX11_worst_59 : decode bX11_worst 59 = .ok (.iload_n 2, 1) := by decide +kernel
theorem dX11_worst_60 : decode bX11_worst 60 = .ok (.istore_n 1, 1) := by decide +kernel
theorem dX11_worst_61 : decode bX11_worst 61 = .ok (.iinc 2 1, 3) := by decide +kernel
theorem dX11_worst_64 : decode bX11_worst 64 = .ok (.goto (-41), 3) := by decide +kernel
theorem dX11_worst_67 : decode bX11_worst 67 = .ok (.iload_n 1, 1) := by decide +kernel
theorem dX11_worst_68 : decode bX11_worst 68 = .ok (.ireturn, 1) := by decide +kernel
theorem dX11_sore_0 : decode bX11_sore 0 = .ok (.aload_n 0, 1) := by decide +kernel
theorem dX11_sore_1 : decode bX11_sore 1 = .ok (.iconst 0, 1) := by decide +kernel
theorem dX11_sore_2 : decode bX11_sore 2 = .ok (.putfield 77, 3) := by decide +kernel
theorem dX11_sore_5 : decode bX11_sore 5 = .ok (.aload_n 0, 1) := by decide +kernel
theorem dX11_sore_6 : decode bX11_sore 6 = .ok (.invokevirtual 231, 3) := by decide +kernel
theorem dX11_sore_9 : decode bX11_sore 9 = .ok (.ifCond .ne 6, 3) := by decide +kernel
theorem dX11_sore_12 : decode bX11_sore 12 = .ok (.bipush (-2), 2) := by decide +kernel
theorem dX11_sore_14 : decode bX11_sore 14 = .ok (.ireturn, 1) := by decide +kernel
theorem dX11_sore_15 : decode bX11_sore 15 = .ok (.aload_n 0, 1) := by decide +kernel
theorem dX11_sore_16 : decode bX11_sore 16 = .ok (.invokevirtual 311, 3) := by decide +kernel
theorem dX11_sore_19 : decode bX11_sore 19 = .ok (.iconst (-1), 1) := by decide +kernel
theorem dX11_sore_20 : decode bX11_sore 20 = .ok (.istore_n 1, 1) := by decide +kernel
theorem dX11_sore_21 : decode bX11_sore 21 = .ok (.iconst 0, 1) := by decide +kernel
theorem dX11_sore_22 : decode bX11_sore 22 = .ok (.istore_n 2, 1) := by decide +kernel
theorem dX11_sore_23 : decode bX11_sore 23 = .ok (.iconst 0, 1) := by decide +kernel
theorem dX11_sore_24 : decode bX11_sore 24 = .ok (.istore_n 3, 1) := by decide +kernel
theorem dX11_sore_25 : decode bX11_sore 25 = .ok (.iload_n 3, 1) := by decide +kernel
theorem dX11_sore_26 : decode bX11_sore 26 = .ok (.aload_n 0, 1) := by decide +kernel
theorem dX11_sore_27 : decode bX11_sore 27 = .ok (.getfield 252, 3) := by decide +kernel
theorem dX11_sore_30 : decode bX11_sore 30 = .ok (.if_icmp .ge 82, 3) := by decide +kernel
theorem dX11_sore_33 : decode bX11_sore 33 = .ok (.iconst 0, 1) := by decide +kernel
theorem dX11_sore_34 : decode bX11_sore 34 = .ok (.istore 4, 2) := by decide +kernel
theorem dX11_sore_36 : decode bX11_sore 36 = .ok (.iconst 0, 1) := by decide +kernel
theorem dX11_sore_37 : decode bX11_sore 37 = .ok (.istore 5, 2) := by decide +kernel
theorem dX11_sore_39 : decode bX11_sore 39 = .ok (.iload 5, 2) := by decide +kernel
theorem dX11_sore_41 : decode bX11_sore 41 = .ok (.aload_n 0, 1) := by decide +kernel
theorem dX11_sore_42 : decode bX11_sore 42 = .ok (.invokevirtual 227, 3) := by decide +kernel
theorem dX11_sore_45 : decode bX11_sore 45 = .ok (.if_icmp .ge 47, 3) := by decide +kernel
theorem dX11_sore_48 : decode bX11_sore 48 = .ok (.iload 4, 2) := by decide +kernel
theorem dX11_sore_50 : decode bX11_sore 50 = .ok (.aload_n 0, 1) := by decide +kernel
theorem dX11_sore_51 : decode bX11_sore 51 = .ok (.getfield 71, 3) := by decide +kernel
theorem dX11_sore_54 : decode bX11_sore 54 = .ok (.iload 5, 2) := by decide +kernel
theorem dX11_sore_56 : decode bX11_sore 56 = .ok (.iaload, 1) := by decide +kernel
theorem dX11_sore_57 : decode bX11_sore 57 = .ok (.iconst (-1), 1) := by decide +kernel
theorem dX11_sore_58 : decode bX11_sore 58 = .ok (.if_icmp .eq 24, 3) := by decide +kernel
theorem dX11_sore_61 : decode bX11_sore 61 = .ok (.aload_n 0, 1) := by decide +kernel
theorem dX11_sore_62 : decode bX11_sore 62 = .ok (.iload 5, 2) := by decide +kernel
theorem dX11_sore_64 : decode bX11_sore 64 = .ok (.aload_n 0, 1) := by decide +kernel
theorem dX11_sore_65 : decode bX11_sore 65 = .ok (.getfield 71, 3) := by decide +kernel
theorem dX11_sore_68 : decode bX11_sore 68 = .ok (.iload 5, 2) := by decide +kernel
theorem dX11_sore_70 : decode bX11_sore 70 = .ok (.iaload, 1) := by decide +kernel
theorem dX11_sore_71 : decode bX11_sore 71 = .ok (.invokevirtual 280, 3) := by decide +kernel
theorem dX11_sore_74 : decode bX11_sore 74 = .ok (.iload_n 3, 1) := by decide +kernel
theorem dX11_sore_75 : decode bX11_sore 75 = .ok (.if_icmp .ne 7, 3) := by decide +kernel
theorem dX11_sore_78 : decode bX11_sore 78 = .ok (.iconst 1, 1) := by decide +kernel
theorem dX11_sore_79 : decode bX11_sore 79 = .ok (.goto 4, 3) := by decide +kernel
theorem dX11_sore_82 : decode bX11_sore 82 = .ok (.iconst 0, 1) := by decide +kernel
theorem dX11_sore_83 : decode bX11_sore 83 = .ok (.iadd, 1) := by decide +kernel
theorem dX11_sore_84 : decode bX11_sore 84 = .ok (.istore 4, 2) := by decide +kernel
theorem dX11_sore_86 : decode bX11_sore 86 = .ok (.iinc 5 1, 3) := by decide +kernel
theorem dX11_sore_89 : decode bX11_sore 89 = .ok (.goto (-50), 3) := by decide +kernel
theorem dX11_sore_92 : decode bX11_sore 92 = .ok (.iload 4, 2) := by decide +kernel
theorem dX11_sore_94 : decode bX11_sore 94 = .ok (.iload_n 2, 1) := by decide +kernel
theorem dX11_sore_95 : decode bX11_sore 95 = .ok (.if_icmp .gt 6, 3) := by decide +kernel
theorem dX11_sore_98 : decode bX11_sore 98 = .ok (.goto 8, 3) := by decide +kernel
theorem dX11_sore_101 : decode bX11_sore 101 = .ok (.iload_n 3, 1) := by decide +kernel
theorem dX11_sore_102 : decode bX11_sore 102 = .ok (.istore_n 1, 1) := by decide +kernel
theorem dX11_sore_103 : decode bX11_sore 103 = .ok (.iload 4, 2) := by decide +kernel
theorem dX11_sore_105 : decode bX11_sore 105 = .ok (.istore_n 2, 1) := by decide +kernel
theorem dX11_sore_106 : decode bX11_sore 106 = .ok (.iinc 3 1, 3) := by decide +kernel
theorem dX11_sore_109 : decode bX11_sore 109 = .ok (.goto (-84), 3) := by decide +kernel
theorem dX11_sore_112 : decode bX11_sore 112 = .ok (.iload_n 1, 1) := by decide +kernel
theorem dX11_sore_113 : decode bX11_sore 113 = .ok (.ireturn, 1) := by decide +kernel
theorem dX11_tense_0 : decode bX11_tense 0 = .ok (.aload_n 0, 1) := by decide +kernel
theorem dX11_tense_1 : decode bX11_tense 1 = .ok (.iconst 0, 1) := by decide +kernel
theorem dX11_tense_2 : decode bX11_tense 2 = .ok (.putfield 77, 3) := by decide +kernel
theorem dX11_tense_5 : decode bX11_tense 5 = .ok (.aload_n 0, 1) := by decide +kernel
theorem dX11_tense_6 : decode bX11_tense 6 = .ok (.iload_n 1, 1) := by decide +kernel
theorem dX11_tense_7 : decode bX11_tense 7 = .ok (.i2l, 1) := by decide +kernel
theorem dX11_tense_8 : decode bX11_tense 8 = .ok (.invokevirtual 237, 3) := by decide +kernel
theorem dX11_tense_11 : decode bX11_tense 11 = .ok (.ifCond .ne 6, 3) := by decide +kernel
theorem dX11_tense_14 : decode bX11_tense 14 = .ok (.bipush (-2), 2) := by decide +kernel
theorem dX11_tense_16 : decode bX11_tense 16 = .ok (.ireturn, 1) := by decide +kernel
theorem dX11_tense_17 : decode bX11_tense 17 = .ok (.aload_n 0, 1) := by decide +kernel
theorem dX11_tense_18 : decode bX11_tense 18 = .ok (.invokevirtual 311, 3) := by decide +kernel
theorem dX11_tense_21 : decode bX11_tense 21 = .ok (.iconst 0, 1) := by decide +kernel
theorem dX11_tense_22 : decode bX11_tense 22 = .ok (.istore_n 2, 1) := by decide +kernel
theorem dX11_tense_23 : decode bX11_tense 23 = .ok (.aload_n 0, 1) := by decide +kernel
theorem dX11_tense_24 : decode bX11_tense 24 = .ok (.iload_n 1, 1) := by decide +kernel
theorem dX11_tense_25 : decode bX11_tense 25 = .ok (.invokevirtual 265, 3) := by decide +kernel
theorem dX11_tense_28 : decode bX11_tense 28 = .ok (.istore_n 3, 1) := by decide +kernel
theorem dX11_tense_29 : decode bX11_tense 29 = .ok (.iload_n 3, 1) := by decide +kernel
theorem dX11_tense_30 : decode bX11_tense 30 = .ok (.aload_n 0, 1) := by decide +kernel
theorem dX11_tense_31 : decode bX11_tense 31 = .ok (.invokevirtual 234, 3) := by decide +kernel
theorem dX11_tense_34 : decode bX11_tense 34 = .ok (.if_icmp .gt 32, 3) := by decide +kernel
theorem dX11_tense_37 : decode bX11_tense 37 = .ok (.iload_n 2, 1) := by decide +kernel
theorem dX11_tense_38 : decode bX11_tense 38 = .ok (.aload_n 0, 1) := by decide +kernel
theorem dX11_tense_39 : decode bX11_tense 39 = .ok (.iload_n 1, 1) := by decide +kernel
theorem dX11_tense_40 : decode bX11_tense 40 = .ok (.iload_n 3, 1) := by decide +kernel
theorem dX11_tense_41 : decode bX11_tense 41 = .ok (.invokevirtual 268, 3) := by decide +kernel
theorem dX11_tense_44 : decode bX11_tense 44 = .ok (.aload_n 0, 1) := by decide +kernel
theorem dX11_tense_45 : decode bX11_tense 45 = .ok (.iload_n 1, 1) := by decide +kernel
theorem dX11_tense_46 : decode bX11_tense 46 = .ok (.iload_n 3, 1) := by decide +kernel
theorem dX11_tense_47 : decode bX11_tense 47 = .ok (.invokevirtual 271, 3) := by decide +kernel
theorem dX11_tense_50 : decode bX11_tense 50 = .ok (.if_icmp .ge 7, 3) := by decide +kernel
theorem dX11_tense_53 : decode bX11_tense 53 = .ok (.iconst 1, 1) := by decide +kernel
theorem dX11_tense_54 : decode bX11_tense 54 = .ok (.goto 4, 3) := by decide +kernel
theorem dX11_tense_57 : decode bX11_tense 57 = .ok (.iconst 0, 1) := by decide +kernel
theorem dX11_tense_58 : decode bX11_tense 58 = .ok (.iadd, 1) := by decide +kernel
theorem dX11_tense_59 : decode bX11_tense 59 = .ok (.istore_n 2, 1) := by decide +kernel
theorem dX11_tense_60 : decode bX11_tense 60 = .ok (.iinc 3 1, 3) := by decide +kernel
theorem dX11_tense_63 : decode bX11_tense 63 = .ok (.goto (-34), 3) := by decide +kernel
theorem dX11_tense_66 : decode bX11_tense 66 = .ok (.iload_n 2, 1) := by decide +kernel
theorem dX11_tense_67 : decode bX11_tense 67 = .ok (.ireturn, 1) := by decide +kernel
theorem dX11_warms_0 : decode bX11_warms 0 = .ok (.aload_n 0, 1) := by decide +kernel
theorem dX11_warms_1 : decode bX11_warms 1 = .ok (.iconst 0, 1) := by decide +kernel
theorem dX11_warms_2 : decode bX11_warms 2 = .ok (.putfield 77, 3) := by decide +kernel
theorem dX11_warms_5 : decode bX11_warms 5 = .ok (.aload_n 0, 1) := by decide +kernel
theorem dX11_warms_6 : decode bX11_warms 6 = .ok (.iload_n 1, 1) := by decide +kernel
theorem dX11_warms_7 : decode bX11_warms 7 = .ok (.i2l, 1) := by decide +kernel
theorem dX11_warms_8 : decode bX11_warms 8 = .ok (.invokevirtual 237, 3) := by decide +kernel
theorem dX11_warms_11 : decode bX11_warms 11 = .ok (.ifCond .ne 6, 3) := by decide +kernel
theorem dX11_warms_14 : decode bX11_warms 14 = .ok (.bipush (-2), 2) := by decide +kernel
theorem dX11_warms_16 : decode bX11_warms 16 = .ok (.ireturn, 1) := by decide +kernel
theorem dX11_warms_17 : decode bX11_warms 17 = .ok (.aload_n 0, 1) := by decide +kernel
theorem dX11_warms_18 : decode bX11_warms 18 = .ok (.invokevirtual 311, 3) := by decide +kernel
theorem dX11_warms_21 : decode bX11_warms 21 = .ok (.iconst 0, 1) := by decide +kernel
theorem dX11_warms_22 : decode bX11_warms 22 = .ok (.istore_n 2, 1) := by decide +kernel
theorem dX11_warms_23 : decode bX11_warms 23 = .ok (.iconst 1, 1) := by decide +kernel
theorem dX11_warms_24 : decode bX11_warms 24 = .ok (.istore_n 3, 1) := by decide +kernel
theorem dX11_warms_25 : decode bX11_warms 25 = .ok (.iload_n 3, 1) := by decide +kernel
theorem dX11_warms_26 : decode bX11_warms 26 = .ok (.aload_n 0, 1) := by decide +kernel
theorem dX11_warms_27 : decode bX11_warms 27 = .ok (.invokevirtual 234, 3) := by decide +kernel
theorem dX11_warms_30 : decode bX11_warms 30 = .ok (.if_icmp .gt 34, 3) := by decide +kernel
theorem dX11_warms_33 : decode bX11_warms 33 = .ok (.iload_n 2, 1) := by decide +kernel
theorem dX11_warms_34 : decode bX11_warms 34 = .ok (.aload_n 0, 1) := by decide +kernel
theorem dX11_warms_35 : decode bX11_warms 35 = .ok (.iload_n 1, 1) := by decide +kernel
theorem dX11_warms_36 : decode bX11_warms 36 = .ok (.iload_n 3, 1) := by decide +kernel
theorem dX11_warms_37 : decode bX11_warms 37 = .ok (.invokevirtual 268, 3) := by decide +kernel
theorem dX11_warms_40 : decode bX11_warms 40 = .ok (.aload_n 0, 1) := by decide +kernel
theorem dX11_warms_41 : decode bX11_warms 41 = .ok (.iload_n 1, 1) := by decide +kernel
theorem dX11_warms_42 : decode bX11_warms 42 = .ok (.iload_n 3, 1) := by decide +kernel
theorem dX11_warms_43 : decode bX11_warms 43 = .ok (.iconst 1, 1) := by decide +kernel
theorem dX11_warms_44 : decode bX11_warms 44 = .ok (.isub, 1) := by decide +kernel
theorem dX11_warms_45 : decode bX11_warms 45 = .ok (.invokevirtual 268, 3) := by decide +kernel
theorem dX11_warms_48 : decode bX11_warms 48 = .ok (.if_icmp .le 7, 3) := by decide +kernel
theorem dX11_warms_51 : decode bX11_warms 51 = .ok (.iconst 1, 1) := by decide +kernel
theorem dX11_warms_52 : decode bX11_warms 52 = .ok (.goto 4, 3) := by decide +kernel
theorem dX11_warms_55 : decode bX11_warms 55 = .ok (.iconst 0, 1) := by decide +kernel
theorem dX11_warms_56 : decode bX11_warms 56 = .ok (.iadd, 1) := by decide +kernel
theorem dX11_warms_57 : decode bX11_warms 57 = .ok (.istore_n 2, 1) := by decide +kernel
theorem dX11_warms_58 : decode bX11_warms 58 = .ok (.iinc 3 1, 3) := by decide +kernel
theorem dX11_warms_61 : decode bX11_warms 61 = .ok (.goto (-36), 3) := by decide +kernel
theorem dX11_warms_64 : decode bX11_warms 64 = .ok (.iload_n 2, 1) := by decide +kernel
theorem dX11_warms_65 : decode bX11_warms 65 = .ok (.ireturn, 1) := by decide +kernel
theorem dX11_cool_0 : decode bX11_cool 0 = .ok (.aload_n 0, 1) := by decide +kernel
theorem dX11_cool_1 : decode bX11_cool 1 = .ok (.iconst 0, 1) := by decide +kernel
theorem dX11_cool_2 : decode bX11_cool 2 = .ok (.putfield 77, 3) := by decide +kernel
theorem dX11_cool_5 : decode bX11_cool 5 = .ok (.aload_n 0, 1) := by decide +kernel
theorem dX11_cool_6 : decode bX11_cool 6 = .ok (.iload_n 1, 1) := by decide +kernel
theorem dX11_cool_7 : decode bX11_cool 7 = .ok (.i2l, 1) := by decide +kernel
theorem dX11_cool_8 : decode bX11_cool 8 = .ok (.invokevirtual 237, 3) := by decide +kernel
theorem dX11_cool_11 : decode bX11_cool 11 = .ok (.ifCond .eq 15, 3) := by decide +kernel
theorem dX11_cool_14 : decode bX11_cool 14 = .ok (.iload_n 2, 1) := by decide +kernel
theorem dX11_cool_15 : decode bX11_cool 15 = .ok (.i2l, 1) := by decide +kernel
theorem dX11_cool_16 : decode bX11_cool 16 = .ok (.lconst 0, 1) := by decide +kernel
theorem dX11_cool_17 : decode bX11_cool 17 = .ok (.ldc2_w 338, 3) := by decide +kernel
theorem dX11_cool_20 : decode bX11_cool 20 = .ok (.invokestatic 82, 3) := by decide +kernel
theorem dX11_cool_23 : decode bX11_cool 23 = .ok (.ifCond .ne 6, 3) := by decide +kernel
theorem dX11_cool_26 : decode bX11_cool 26 = .ok (.bipush (-2), 2) := by decide +kernel
theorem dX11_cool_28 : decode bX11_cool 28 = .ok (.ireturn, 1) := by decide +kernel
theorem dX11_cool_29 : decode bX11_cool 29 = .ok (.aload_n 0, 1) := by decide +kernel
theorem dX11_cool_30 : decode bX11_cool 30 = .ok (.invokevirtual 311, 3) := by decide +kernel
theorem dX11_cool_33 : decode bX11_cool 33 = .ok (.aload_n 0, 1) := by decide +kernel
theorem dX11_cool_34 : decode bX11_cool 34 = .ok (.iload_n 1, 1) := by decide +kernel
theorem dX11_cool_35 : decode bX11_cool 35 = .ok (.invokevirtual 265, 3) := by decide +kernel
theorem dX11_cool_38 : decode bX11_cool 38 = .ok (.istore_n 3, 1) := by decide +kernel
theorem dX11_cool_39 : decode bX11_cool 39 = .ok (.iload_n 3, 1) := by decide +kernel
theorem dX11_cool_40 : decode bX11_cool 40 = .ok (.aload_n 0, 1) := by decide +kernel
theorem dX11_cool_41 : decode bX11_cool 41 = .ok (.invokevirtual 234, 3) := by decide +kernel
theorem dX11_cool_44 : decode bX11_cool 44 = .ok (.if_icmp .gt 21, 3) := by decide +kernel
theorem dX11_cool_47 : decode bX11_cool 47 = .ok (.aload_n 0, 1) := by decide +kernel
theorem dX11_cool_48 : decode bX11_cool 48 = .ok (.iload_n 1, 1) := by decide +kernel
theorem dX11_cool_49 : decode bX11_cool 49 = .ok (.iload_n 3, 1) := by decide +kernel
theorem dX11_cool_50 : decode bX11_cool 50 = .ok (.invokevirtual 268, 3) := by decide +kernel
theorem dX11_cool_53 : decode bX11_cool 53 = .ok (.iload_n 2, 1) := by decide +kernel
theorem dX11_cool_54 : decode bX11_cool 54 = .ok (.if_icmp .gt 5, 3) := by decide +kernel
theorem dX11_cool_57 : decode bX11_cool 57 = .ok (.iload_n 3, 1) := by decide +kernel
theorem dX11_cool_58 : decode bX11_cool 58 = .ok (.ireturn, 1) := by decide +kernel
theorem dX11_cool_59 : decode bX11_cool 59 = .ok (.iinc 3 1, 3) := by decide +kernel
theorem dX11_cool_62 : decode bX11_cool 62 = .ok (.goto (-23), 3) := by decide +kernel
theorem dX11_cool_65 : decode bX11_cool 65 = .ok (.iconst (-1), 1) := by decide +kernel
theorem dX11_cool_66 : decode bX11_cool 66 = .ok (.ireturn, 1) := by decide +kernel
theorem dX11_still_0 : decode bX11_still 0 = .ok (.aload_n 0, 1) := by decide +kernel
theorem dX11_still_1 : decode bX11_still 1 = .ok (.iconst 0, 1) := by decide +kernel
theorem dX11_still_2 : decode bX11_still 2 = .ok (.putfield 77, 3) := by decide +kernel
theorem dX11_still_5 : decode bX11_still 5 = .ok (.aload_n 0, 1) := by decide +kernel
theorem dX11_still_6 : decode bX11_still 6 = .ok (.iload_n 1, 1) := by decide +kernel
theorem dX11_still_7 : decode bX11_still 7 = .ok (.i2l, 1) := by decide +kernel
theorem dX11_still_8 : decode bX11_still 8 = .ok (.invokevirtual 237, 3) := by decide +kernel
theorem dX11_still_11 : decode bX11_still 11 = .ok (.ifCond .ne 6, 3) := by decide +kernel
theorem dX11_still_14 : decode bX11_still 14 = .ok (.bipush (-2), 2) := by decide +kernel
theorem dX11_still_16 : decode bX11_still 16 = .ok (.ireturn, 1) := by decide +kernel
theorem dX11_still_17 : decode bX11_still 17 = .ok (.aload_n 0, 1) := by decide +kernel
theorem dX11_still_18 : decode bX11_still 18 = .ok (.invokevirtual 311, 3) := by decide +kernel
theorem dX11_still_21 : decode bX11_still 21 = .ok (.aload_n 0, 1) := by decide +kernel
theorem dX11_still_22 : decode bX11_still 22 = .ok (.invokevirtual 234, 3) := by decide +kernel
theorem dX11_still_25 : decode bX11_still 25 = .ok (.istore_n 2, 1) := by decide +kernel
theorem dX11_still_26 : decode bX11_still 26 = .ok (.iload_n 2, 1) := by decide +kernel
theorem dX11_still_27 : decode bX11_still 27 = .ok (.ifCond .le 29, 3) := by decide +kernel
theorem dX11_still_30 : decode bX11_still 30 = .ok (.aload_n 0, 1) := by decide +kernel
theorem dX11_still_31 : decode bX11_still 31 = .ok (.iload_n 1, 1) := by decide +kernel
theorem dX11_still_32 : decode bX11_still 32 = .ok (.iload_n 2, 1) := by decide +kernel
theorem dX11_still_33 : decode bX11_still 33 = .ok (.iconst 1, 1) := by decide +kernel
theorem dX11_still_34 : decode bX11_still 34 = .ok (.isub, 1) := by decide +kernel
theorem dX11_still_35 : decode bX11_still 35 = .ok (.invokevirtual 268, 3) := by decide +kernel
theorem dX11_still_38 : decode bX11_still 38 = .ok (.aload_n 0, 1) := by decide +kernel
theorem dX11_still_39 : decode bX11_still 39 = .ok (.iload_n 1, 1) := by decide +kernel
theorem dX11_still_40 : decode bX11_still 40 = .ok (.aload_n 0, 1) := by decide +kernel
theorem dX11_still_41 : decode bX11_still 41 = .ok (.invokevirtual 234, 3) := by decide +kernel
theorem dX11_still_44 : decode bX11_still 44 = .ok (.invokevirtual 268, 3) := by decide +kernel
theorem dX11_still_47 : decode bX11_still 47 = .ok (.if_icmp .ne 9, 3) := by decide +kernel
theorem dX11_still_50 : decode bX11_still 50 = .ok (.iinc 2 (-1), 3) := by decide +kernel
theorem dX11_still_53 : decode bX11_still 53 = .ok (.goto (-27), 3) := by decide +kernel
theorem dX11_still_56 : decode bX11_still 56 = .ok (.iload_n 2, 1) := by decide +kernel
theorem dX11_still_57 : decode bX11_still 57 = .ok (.ireturn, 1) := by decide +kernel
theorem dX11_pairs_0 : decode bX11_pairs 0 = .ok (.aload_n 0, 1) := by decide +kernel
theorem dX11_pairs_1 : decode bX11_pairs 1 = .ok (.iconst 0, 1) := by decide +kernel
theorem dX11_pairs_2 : decode bX11_pairs 2 = .ok (.putfield 77, 3) := by decide +kernel
theorem dX11_pairs_5 : decode bX11_pairs 5 = .ok (.aload_n 0, 1) := by decide +kernel
theorem dX11_pairs_6 : decode bX11_pairs 6 = .ok (.iload_n 1, 1) := by decide +kernel
theorem dX11_pairs_7 : decode bX11_pairs 7 = .ok (.i2l, 1) := by decide +kernel
theorem dX11_pairs_8 : decode bX11_pairs 8 = .ok (.invokevirtual 240, 3) := by decide +kernel
theorem dX11_pairs_11 : decode bX11_pairs 11 = .ok (.ifCond .ne 6, 3) := by decide +kernel
theorem dX11_pairs_14 : decode bX11_pairs 14 = .ok (.bipush (-2), 2) := by decide +kernel
theorem dX11_pairs_16 : decode bX11_pairs 16 = .ok (.ireturn, 1) := by decide +kernel
theorem dX11_pairs_17 : decode bX11_pairs 17 = .ok (.aload_n 0, 1) := by decide +kernel
theorem dX11_pairs_18 : decode bX11_pairs 18 = .ok (.invokevirtual 296, 3) := by decide +kernel
theorem dX11_pairs_21 : decode bX11_pairs 21 = .ok (.iconst 0, 1) := by decide +kernel
theorem dX11_pairs_22 : decode bX11_pairs 22 = .ok (.istore_n 2, 1) := by decide +kernel
theorem dX11_pairs_23 : decode bX11_pairs 23 = .ok (.iconst 0, 1) := by decide +kernel
theorem dX11_pairs_24 : decode bX11_pairs 24 = .ok (.istore_n 3, 1) := by decide +kernel
theorem dX11_pairs_25 : decode bX11_pairs 25 = .ok (.iload_n 3, 1) := by decide +kernel
theorem dX11_pairs_26 : decode bX11_pairs 26 = .ok (.aload_n 0, 1) := by decide +kernel
theorem dX11_pairs_27 : decode bX11_pairs 27 = .ok (.getfield 252, 3) := by decide +kernel
theorem dX11_pairs_30 : decode bX11_pairs 30 = .ok (.if_icmp .ge 32, 3) := by decide +kernel
theorem dX11_pairs_33 : decode bX11_pairs 33 = .ok (.aload_n 0, 1) := by decide +kernel
theorem dX11_pairs_34 : decode bX11_pairs 34 = .ok (.iload_n 3, 1) := by decide +kernel
theorem dX11_pairs_35 : decode bX11_pairs 35 = .ok (.iload_n 1, 1) := by decide +kernel
theorem dX11_pairs_36 : decode bX11_pairs 36 = .ok (.invokevirtual 308, 3) := by decide +kernel
theorem dX11_pairs_39 : decode bX11_pairs 39 = .ok (.invokestatic 335, 3) := by decide +kernel
theorem dX11_pairs_42 : decode bX11_pairs 42 = .ok (.istore 4, 2) := by decide +kernel
theorem dX11_pairs_44 : decode bX11_pairs 44 = .ok (.iload_n 2, 1) := by decide +kernel
theorem dX11_pairs_45 : decode bX11_pairs 45 = .ok (.iload 4, 2) := by decide +kernel
theorem dX11_pairs_47 : decode bX11_pairs 47 = .ok (.iload 4, 2) := by decide +kernel
theorem dX11_pairs_49 : decode bX11_pairs 49 = .ok (.iconst 1, 1) := by decide +kernel
theorem dX11_pairs_50 : decode bX11_pairs 50 = .ok (.isub, 1) := by decide +kernel
theorem dX11_pairs_51 : decode bX11_pairs 51 = .ok (.imul, 1) := by decide +kernel
theorem dX11_pairs_52 : decode bX11_pairs 52 = .ok (.iconst 2, 1) := by decide +kernel
theorem dX11_pairs_53 : decode bX11_pairs 53 = .ok (.idiv, 1) := by decide +kernel
theorem dX11_pairs_54 : decode bX11_pairs 54 = .ok (.iadd, 1) := by decide +kernel
theorem dX11_pairs_55 : decode bX11_pairs 55 = .ok (.istore_n 2, 1) := by decide +kernel
theorem dX11_pairs_56 : decode bX11_pairs 56 = .ok (.iinc 3 1, 3) := by decide +kernel
theorem dX11_pairs_59 : decode bX11_pairs 59 = .ok (.goto (-34), 3) := by decide +kernel
theorem dX11_pairs_62 : decode bX11_pairs 62 = .ok (.iload_n 2, 1) := by decide +kernel
theorem dX11_pairs_63 : decode bX11_pairs 63 = .ok (.ireturn, 1) := by decide +kernel
theorem dX11_crowd_0 : decode bX11_crowd 0 = .ok (.aload_n 0, 1) := by decide +kernel
theorem dX11_crowd_1 : decode bX11_crowd 1 = .ok (.iconst 0, 1) := by decide +kernel
theorem dX11_crowd_2 : decode bX11_crowd 2 = .ok (.putfield 77, 3) := by decide +kernel
theorem dX11_crowd_5 : decode bX11_crowd 5 = .ok (.aload_n 0, 1) := by decide +kernel
theorem dX11_crowd_6 : decode bX11_crowd 6 = .ok (.invokevirtual 231, 3) := by decide +kernel
theorem dX11_crowd_9 : decode bX11_crowd 9 = .ok (.ifCond .ne 6, 3) := by decide +kernel
theorem dX11_crowd_12 : decode bX11_crowd 12 = .ok (.bipush (-2), 2) := by decide +kernel
theorem dX11_crowd_14 : decode bX11_crowd 14 = .ok (.ireturn, 1) := by decide +kernel
theorem dX11_crowd_15 : decode bX11_crowd 15 = .ok (.aload_n 0, 1) := by decide +kernel
theorem dX11_crowd_16 : decode bX11_crowd 16 = .ok (.invokevirtual 296, 3) := by decide +kernel
theorem dX11_crowd_19 : decode bX11_crowd 19 = .ok (.iconst 0, 1) := by decide +kernel
theorem dX11_crowd_20 : decode bX11_crowd 20 = .ok (.istore_n 1, 1) := by decide +kernel
theorem dX11_crowd_21 : decode bX11_crowd 21 = .ok (.iconst 0, 1) := by decide +kernel
theorem dX11_crowd_22 : decode bX11_crowd 22 = .ok (.istore_n 2, 1) := by decide +kernel
theorem dX11_crowd_23 : decode bX11_crowd 23 = .ok (.iload_n 2, 1) := by decide +kernel
theorem dX11_crowd_24 : decode bX11_crowd 24 = .ok (.aload_n 0, 1) := by decide +kernel
theorem dX11_crowd_25 : decode bX11_crowd 25 = .ok (.invokevirtual 234, 3) := by decide +kernel
theorem dX11_crowd_28 : decode bX11_crowd 28 = .ok (.if_icmp .gt 39, 3) := by decide +kernel
theorem dX11_crowd_31 : decode bX11_crowd 31 = .ok (.iconst 0, 1) := by decide +kernel
theorem dX11_crowd_32 : decode bX11_crowd 32 = .ok (.istore_n 3, 1) := by decide +kernel
theorem dX11_crowd_33 : decode bX11_crowd 33 = .ok (.iload_n 3, 1) := by decide +kernel
theorem dX11_crowd_34 : decode bX11_crowd 34 = .ok (.aload_n 0, 1) := by decide +kernel
theorem dX11_crowd_35 : decode bX11_crowd 35 = .ok (.getfield 252, 3) := by decide +kernel
theorem dX11_crowd_38 : decode bX11_crowd 38 = .ok (.if_icmp .ge 23, 3) := by decide +kernel
theorem dX11_crowd_41 : decode bX11_crowd 41 = .ok (.iload_n 1, 1) := by decide +kernel
theorem dX11_crowd_42 : decode bX11_crowd 42 = .ok (.aload_n 0, 1) := by decide +kernel
theorem dX11_crowd_43 : decode bX11_crowd 43 = .ok (.iload_n 3, 1) := by decide +kernel
theorem dX11_crowd_44 : decode bX11_crowd 44 = .ok (.iload_n 2, 1) := by decide +kernel
theorem dX11_crowd_45 : decode bX11_crowd 45 = .ok (.invokevirtual 308, 3) := by decide +kernel
theorem dX11_crowd_48 : decode bX11_crowd 48 = .ok (.invokestatic 335, 3) := by decide +kernel
theorem dX11_crowd_51 : decode bX11_crowd 51 = .ok (.invokestatic 262, 3) := by decide +kernel
theorem dX11_crowd_54 : decode bX11_crowd 54 = .ok (.istore_n 1, 1) := by decide +kernel
theorem dX11_crowd_55 : decode bX11_crowd 55 = .ok (.iinc 3 1, 3) := by decide +kernel
theorem dX11_crowd_58 : decode bX11_crowd 58 = .ok (.goto (-25), 3) := by decide +kernel
theorem dX11_crowd_61 : decode bX11_crowd 61 = .ok (.iinc 2 1, 3) := by decide +kernel
theorem dX11_crowd_64 : decode bX11_crowd 64 = .ok (.goto (-41), 3) := by decide +kernel
theorem dX11_crowd_67 : decode bX11_crowd 67 = .ok (.iload_n 1, 1) := by decide +kernel
theorem dX11_crowd_68 : decode bX11_crowd 68 = .ok (.ireturn, 1) := by decide +kernel
theorem dX11_oven_0 : decode bX11_oven 0 = .ok (.aload_n 0, 1) := by decide +kernel
theorem dX11_oven_1 : decode bX11_oven 1 = .ok (.iconst 0, 1) := by decide +kernel
theorem dX11_oven_2 : decode bX11_oven 2 = .ok (.putfield 77, 3) := by decide +kernel
theorem dX11_oven_5 : decode bX11_oven 5 = .ok (.aload_n 0, 1) := by decide +kernel
theorem dX11_oven_6 : decode bX11_oven 6 = .ok (.iload_n 1, 1) := by decide +kernel
theorem dX11_oven_7 : decode bX11_oven 7 = .ok (.i2l, 1) := by decide +kernel
theorem dX11_oven_8 : decode bX11_oven 8 = .ok (.invokevirtual 240, 3) := by decide +kernel
theorem dX11_oven_11 : decode bX11_oven 11 = .ok (.ifCond .ne 6, 3) := by decide +kernel
theorem dX11_oven_14 : decode bX11_oven 14 = .ok (.bipush (-2), 2) := by decide +kernel
theorem dX11_oven_16 : decode bX11_oven 16 = .ok (.ireturn, 1) := by decide +kernel
theorem dX11_oven_17 : decode bX11_oven 17 = .ok (.aload_n 0, 1) := by decide +kernel
theorem dX11_oven_18 : decode bX11_oven 18 = .ok (.invokevirtual 296, 3) := by decide +kernel
theorem dX11_oven_21 : decode bX11_oven 21 = .ok (.iconst (-1), 1) := by decide +kernel
theorem dX11_oven_22 : decode bX11_oven 22 = .ok (.istore_n 2, 1) := by decide +kernel
theorem dX11_oven_23 : decode bX11_oven 23 = .ok (.iconst 0, 1) := by decide +kernel
theorem dX11_oven_24 : decode bX11_oven 24 = .ok (.istore_n 3, 1) := by decide +kernel
theorem dX11_oven_25 : decode bX11_oven 25 = .ok (.iload_n 3, 1) := by decide +kernel
theorem dX11_oven_26 : decode bX11_oven 26 = .ok (.aload_n 0, 1) := by decide +kernel
theorem dX11_oven_27 : decode bX11_oven 27 = .ok (.getfield 252, 3) := by decide +kernel
theorem dX11_oven_30 : decode bX11_oven 30 = .ok (.if_icmp .ge 31, 3) := by decide +kernel
theorem dX11_oven_33 : decode bX11_oven 33 = .ok (.iload_n 2, 1) := by decide +kernel
theorem dX11_oven_34 : decode bX11_oven 34 = .ok (.iconst (-1), 1) := by decide +kernel
theorem dX11_oven_35 : decode bX11_oven 35 = .ok (.if_icmp .eq 18, 3) := by decide +kernel
theorem dX11_oven_38 : decode bX11_oven 38 = .ok (.aload_n 0, 1) := by decide +kernel
theorem dX11_oven_39 : decode bX11_oven 39 = .ok (.iload_n 3, 1) := by decide +kernel
theorem dX11_oven_40 : decode bX11_oven 40 = .ok (.iload_n 1, 1) := by decide +kernel
theorem dX11_oven_41 : decode bX11_oven 41 = .ok (.invokevirtual 277, 3) := by decide +kernel
theorem dX11_oven_44 : decode bX11_oven 44 = .ok (.aload_n 0, 1) := by decide +kernel
theorem dX11_oven_45 : decode bX11_oven 45 = .ok (.iload_n 2, 1) := by decide +kernel
theorem dX11_oven_46 : decode bX11_oven 46 = .ok (.iload_n 1, 1) := by decide +kernel
theorem dX11_oven_47 : decode bX11_oven 47 = .ok (.invokevirtual 277, 3) := by decide +kernel
theorem dX11_oven_50 : decode bX11_oven 50 = .ok (.if_icmp .le 5, 3) := by decide +kernel
theorem dX11_oven_53 : decode bX11_oven 53 = .ok (.iload_n 3, 1) := by decide +kernel
theorem dX11_oven_54 : decode bX11_oven 54 = .ok (.istore_n 2, 1) := by decide +kernel
theorem dX11_oven_55 : decode bX11_oven 55 = .ok (.iinc 3 1, 3) := by decide +kernel
theorem dX11_oven_58 : decode bX11_oven 58 = .ok (.goto (-33), 3) := by decide +kernel
theorem dX11_oven_61 : decode bX11_oven 61 = .ok (.iload_n 2, 1) := by decide +kernel
theorem dX11_oven_62 : decode bX11_oven 62 = .ok (.ireturn, 1) := by decide +kernel
theorem dX11_fallOf_0 : decode bX11_fallOf 0 = .ok (.aload_n 0, 1) := by decide +kernel
theorem dX11_fallOf_1 : decode bX11_fallOf 1 = .ok (.iload_n 1, 1) := by decide +kernel
theorem dX11_fallOf_2 : decode bX11_fallOf 2 = .ok (.iload_n 2, 1) := by decide +kernel
theorem dX11_fallOf_3 : decode bX11_fallOf 3 = .ok (.invokevirtual 277, 3) := by decide +kernel
theorem dX11_fallOf_6 : decode bX11_fallOf 6 = .ok (.aload_n 0, 1) := by decide +kernel
theorem dX11_fallOf_7 : decode bX11_fallOf 7 = .ok (.iload_n 1, 1) := by decide +kernel
theorem dX11_fallOf_8 : decode bX11_fallOf 8 = .ok (.iconst 1, 1) := by decide +kernel
theorem dX11_fallOf_9 : decode bX11_fallOf 9 = .ok (.iadd, 1) := by decide +kernel
theorem dX11_fallOf_10 : decode bX11_fallOf 10 = .ok (.iload_n 2, 1) := by decide +kernel
theorem dX11_fallOf_11 : decode bX11_fallOf 11 = .ok (.invokevirtual 277, 3) := by decide +kernel
theorem dX11_fallOf_14 : decode bX11_fallOf 14 = .ok (.isub, 1) := by decide +kernel
theorem dX11_fallOf_15 : decode bX11_fallOf 15 = .ok (.ireturn, 1) := by decide +kernel
theorem dX11_fall_0 : decode bX11_fall 0 = .ok (.aload_n 0, 1) := by decide +kernel
theorem dX11_fall_1 : decode bX11_fall 1 = .ok (.iconst 0, 1) := by decide +kernel
theorem dX11_fall_2 : decode bX11_fall 2 = .ok (.putfield 77, 3) := by decide +kernel
theorem dX11_fall_5 : decode bX11_fall 5 = .ok (.aload_n 0, 1) := by decide +kernel
theorem dX11_fall_6 : decode bX11_fall 6 = .ok (.iload_n 1, 1) := by decide +kernel
theorem dX11_fall_7 : decode bX11_fall 7 = .ok (.invokevirtual 302, 3) := by decide +kernel
theorem dX11_fall_10 : decode bX11_fall 10 = .ok (.ifCond .eq 24, 3) := by decide +kernel
theorem dX11_fall_13 : decode bX11_fall 13 = .ok (.iload_n 1, 1) := by decide +kernel
theorem dX11_fall_14 : decode bX11_fall 14 = .ok (.aload_n 0, 1) := by decide +kernel
theorem dX11_fall_15 : decode bX11_fall 15 = .ok (.getfield 34, 3) := by decide +kernel
theorem dX11_fall_18 : decode bX11_fall 18 = .ok (.iconst 5, 1) := by decide +kernel
theorem dX11_fall_19 : decode bX11_fall 19 = .ok (.iaload, 1) := by decide +kernel
theorem dX11_fall_20 : decode bX11_fall 20 = .ok (.iconst 1, 1) := by decide +kernel
theorem dX11_fall_21 : decode bX11_fall 21 = .ok (.isub, 1) := by decide +kernel
theorem dX11_fall_22 : decode bX11_fall 22 = .ok (.if_icmp .eq 12, 3) := by decide +kernel
theorem dX11_fall_25 : decode bX11_fall 25 = .ok (.aload_n 0, 1) := by decide +kernel
theorem dX11_fall_26 : decode bX11_fall 26 = .ok (.iload_n 2, 1) := by decide +kernel
theorem dX11_fall_27 : decode bX11_fall 27 = .ok (.i2l, 1) := by decide +kernel
theorem dX11_fall_28 : decode bX11_fall 28 = .ok (.invokevirtual 240, 3) := by decide +kernel
theorem dX11_fall_31 : decode bX11_fall 31 = .ok (.ifCond .ne 7, 3) := by decide +kernel
theorem dX11_fall_34 : decode bX11_fall 34 = .ok (.sipush (-10000), 3) := by decide +kernel
theorem dX11_fall_37 : decode bX11_fall 37 = .ok (.ireturn, 1) := by decide +kernel
theorem dX11_fall_38 : decode bX11_fall 38 = .ok (.aload_n 0, 1) := by decide +kernel
theorem dX11_fall_39 : decode bX11_fall 39 = .ok (.invokevirtual 296, 3) := by decide +kernel
theorem dX11_fall_42 : decode bX11_fall 42 = .ok (.aload_n 0, 1) := by decide +kernel
theorem dX11_fall_43 : decode bX11_fall 43 = .ok (.iload_n 1, 1) := by decide +kernel
theorem dX11_fall_44 : decode bX11_fall 44 = .ok (.iload_n 2, 1) := by decide +kernel
theorem dX11_fall_45 : decode bX11_fall 45 = .ok (.invokevirtual 340, 3) := by decide +kernel
theorem dX11_fall_48 : decode bX11_fall 48 = .ok (.ireturn, 1) := by decide +kernel
theorem dX11_cliff_0 : decode bX11_cliff 0 = .ok (.aload_n 0, 1) := by decide +kernel
theorem dX11_cliff_1 : decode bX11_cliff 1 = .ok (.iconst 0, 1) := by decide +kernel
theorem dX11_cliff_2 : decode bX11_cliff 2 = .ok (.putfield 77, 3) := by decide +kernel
theorem dX11_cliff_5 : decode bX11_cliff 5 = .ok (.aload_n 0, 1) := by decide +kernel
theorem dX11_cliff_6 : decode bX11_cliff 6 = .ok (.iload_n 1, 1) := by decide +kernel
theorem dX11_cliff_7 : decode bX11_cliff 7 = .ok (.i2l, 1) := by decide +kernel
theorem dX11_cliff_8 : decode bX11_cliff 8 = .ok (.invokevirtual 240, 3) := by decide +kernel
theorem dX11_cliff_11 : decode bX11_cliff 11 = .ok (.ifCond .ne 6, 3) := by decide +kernel
theorem dX11_cliff_14 : decode bX11_cliff 14 = .ok (.bipush (-2), 2) := by decide +kernel
theorem dX11_cliff_16 : decode bX11_cliff 16 = .ok (.ireturn, 1) := by decide +kernel
theorem dX11_cliff_17 : decode bX11_cliff 17 = .ok (.aload_n 0, 1) := by decide +kernel
theorem dX11_cliff_18 : decode bX11_cliff 18 = .ok (.invokevirtual 296, 3) := by decide +kernel
theorem dX11_cliff_21 : decode bX11_cliff 21 = .ok (.iconst (-1), 1) := by decide +kernel
theorem dX11_cliff_22 : decode bX11_cliff 22 = .ok (.istore_n 2, 1) := by decide +kernel
theorem dX11_cliff_23 : decode bX11_cliff 23 = .ok (.iconst 0, 1) := by decide +kernel
theorem dX11_cliff_24 : decode bX11_cliff 24 = .ok (.istore_n 3, 1) := by decide +kernel
theorem dX11_cliff_25 : decode bX11_cliff 25 = .ok (.iload_n 3, 1) := by decide +kernel
theorem dX11_cliff_26 : decode bX11_cliff 26 = .ok (.iconst 1, 1) := by decide +kernel
theorem dX11_cliff_27 : decode bX11_cliff 27 = .ok (.iadd, 1) := by decide +kernel
theorem dX11_cliff_28 : decode bX11_cliff 28 = .ok (.aload_n 0, 1) := by decide +kernel
theorem dX11_cliff_29 : decode bX11_cliff 29 = .ok (.getfield 252, 3) := by decide +kernel
theorem dX11_cliff_32 : decode bX11_cliff 32 = .ok (.if_icmp .ge 31, 3) := by decide +kernel
theorem dX11_cliff_35 : decode bX11_cliff 35 = .ok (.iload_n 2, 1) := by decide +kernel
theorem dX11_cliff_36 : decode bX11_cliff 36 = .ok (.iconst (-1), 1) := by decide +kernel
theorem dX11_cliff_37 : decode bX11_cliff 37 = .ok (.if_icmp .eq 18, 3) := by decide +kernel
theorem dX11_cliff_40 : decode bX11_cliff 40 = .ok (.aload_n 0, 1) := by decide +kernel
theorem dX11_cliff_41 : decode bX11_cliff 41 = .ok (.iload_n 3, 1) := by decide +kernel
theorem dX11_cliff_42 : decode bX11_cliff 42 = .ok (.iload_n 1, 1) := by decide +kernel
theorem dX11_cliff_43 : decode bX11_cliff 43 = .ok (.invokevirtual 340, 3) := by decide +kernel
theorem dX11_cliff_46 : decode bX11_cliff 46 = .ok (.aload_n 0, 1) := by decide +kernel
theorem dX11_cliff_47 : decode bX11_cliff 47 = .ok (.iload_n 2, 1) := by decide +kernel
theorem dX11_cliff_48 : decode bX11_cliff 48 = .ok (.iload_n 1, 1) := by decide +kernel
theorem dX11_cliff_49 : decode bX11_cliff 49 = .ok (.invokevirtual 340, 3) := by decide +kernel
theorem dX11_cliff_52 : decode bX11_cliff 52 = .ok (.if_icmp .le 5, 3) := by decide +kernel
theorem dX11_cliff_55 : decode bX11_cliff 55 = .ok (.iload_n 3, 1) := by decide +kernel
theorem dX11_cliff_56 : decode bX11_cliff 56 = .ok (.istore_n 2, 1) := by decide +kernel
theorem dX11_cliff_57 : decode bX11_cliff 57 = .ok (.iinc 3 1, 3) := by decide +kernel
theorem dX11_cliff_60 : decode bX11_cliff 60 = .ok (.goto (-35), 3) := by decide +kernel
theorem dX11_cliff_63 : decode bX11_cliff 63 = .ok (.iload_n 2, 1) := by decide +kernel
theorem dX11_cliff_64 : decode bX11_cliff 64 = .ok (.ireturn, 1) := by decide +kernel
theorem dX11_least_0 : decode bX11_least 0 = .ok (.aload_n 0, 1) := by decide +kernel
theorem dX11_least_1 : decode bX11_least 1 = .ok (.iconst 0, 1) := by decide +kernel
theorem dX11_least_2 : decode bX11_least 2 = .ok (.putfield 77, 3) := by decide +kernel
theorem dX11_least_5 : decode bX11_least 5 = .ok (.aload_n 0, 1) := by decide +kernel
theorem dX11_least_6 : decode bX11_least 6 = .ok (.iload_n 1, 1) := by decide +kernel
theorem dX11_least_7 : decode bX11_least 7 = .ok (.i2l, 1) := by decide +kernel
theorem dX11_least_8 : decode bX11_least 8 = .ok (.invokevirtual 237, 3) := by decide +kernel
theorem dX11_least_11 : decode bX11_least 11 = .ok (.ifCond .ne 6, 3) := by decide +kernel
theorem dX11_least_14 : decode bX11_least 14 = .ok (.bipush (-2), 2) := by decide +kernel
theorem dX11_least_16 : decode bX11_least 16 = .ok (.ireturn, 1) := by decide +kernel
theorem dX11_least_17 : decode bX11_least 17 = .ok (.aload_n 0, 1) := by decide +kernel
theorem dX11_least_18 : decode bX11_least 18 = .ok (.invokevirtual 311, 3) := by decide +kernel
theorem dX11_least_21 : decode bX11_least 21 = .ok (.iconst (-1), 1) := by decide +kernel
theorem dX11_least_22 : decode bX11_least 22 = .ok (.istore_n 2, 1) := by decide +kernel
theorem dX11_least_23 : decode bX11_least 23 = .ok (.aload_n 0, 1) := by decide +kernel
theorem dX11_least_24 : decode bX11_least 24 = .ok (.iload_n 1, 1) := by decide +kernel
theorem dX11_least_25 : decode bX11_least 25 = .ok (.invokevirtual 265, 3) := by decide +kernel
theorem dX11_least_28 : decode bX11_least 28 = .ok (.istore_n 3, 1) := by decide +kernel
theorem dX11_least_29 : decode bX11_least 29 = .ok (.iload_n 3, 1) := by decide +kernel
theorem dX11_least_30 : decode bX11_least 30 = .ok (.aload_n 0, 1) := by decide +kernel
theorem dX11_least_31 : decode bX11_least 31 = .ok (.invokevirtual 234, 3) := by decide +kernel
theorem dX11_least_34 : decode bX11_least 34 = .ok (.if_icmp .gt 34, 3) := by decide +kernel
theorem dX11_least_37 : decode bX11_least 37 = .ok (.iload_n 2, 1) := by decide +kernel
theorem dX11_least_38 : decode bX11_least 38 = .ok (.iconst (-1), 1) := by decide +kernel
theorem dX11_least_39 : decode bX11_least 39 = .ok (.if_icmp .ne 12, 3) := by decide +kernel
theorem dX11_least_42 : decode bX11_least 42 = .ok (.aload_n 0, 1) := by decide +kernel
theorem dX11_least_43 : decode bX11_least 43 = .ok (.iload_n 1, 1) := by decide +kernel
theorem dX11_least_44 : decode bX11_least 44 = .ok (.iload_n 3, 1) := by decide +kernel
theorem dX11_least_45 : decode bX11_least 45 = .ok (.invokevirtual 268, 3) := by decide +kernel
theorem dX11_least_48 : decode bX11_least 48 = .ok (.goto 13, 3) := by decide +kernel
theorem dX11_least_51 : decode bX11_least 51 = .ok (.iload_n 2, 1) := by decide +kernel
theorem dX11_least_52 : decode bX11_least 52 = .ok (.aload_n 0, 1) := by decide +kernel
theorem dX11_least_53 : decode bX11_least 53 = .ok (.iload_n 1, 1) := by decide +kernel
theorem dX11_least_54 : decode bX11_least 54 = .ok (.iload_n 3, 1) := by decide +kernel
theorem dX11_least_55 : decode bX11_least 55 = .ok (.invokevirtual 268, 3) := by decide +kernel
theorem dX11_least_58 : decode bX11_least 58 = .ok (.invokestatic 283, 3) := by decide +kernel
theorem dX11_least_61 : decode bX11_least 61 = .ok (.istore_n 2, 1) := by decide +kernel
theorem dX11_least_62 : decode bX11_least 62 = .ok (.iinc 3 1, 3) := by decide +kernel
theorem dX11_least_65 : decode bX11_least 65 = .ok (.goto (-36), 3) := by decide +kernel
theorem dX11_least_68 : decode bX11_least 68 = .ok (.iload_n 2, 1) := by decide +kernel
theorem dX11_least_69 : decode bX11_least 69 = .ok (.ireturn, 1) := by decide +kernel
theorem dX11_dropOf_0 : decode bX11_dropOf 0 = .ok (.aload_n 0, 1) := by decide +kernel
theorem dX11_dropOf_1 : decode bX11_dropOf 1 = .ok (.iload_n 1, 1) := by decide +kernel
theorem dX11_dropOf_2 : decode bX11_dropOf 2 = .ok (.iload_n 2, 1) := by decide +kernel
theorem dX11_dropOf_3 : decode bX11_dropOf 3 = .ok (.invokevirtual 268, 3) := by decide +kernel
theorem dX11_dropOf_6 : decode bX11_dropOf 6 = .ok (.aload_n 0, 1) := by decide +kernel
theorem dX11_dropOf_7 : decode bX11_dropOf 7 = .ok (.iload_n 1, 1) := by decide +kernel
theorem dX11_dropOf_8 : decode bX11_dropOf 8 = .ok (.iload_n 2, 1) := by decide +kernel
theorem dX11_dropOf_9 : decode bX11_dropOf 9 = .ok (.iconst 1, 1) := by decide +kernel
theorem dX11_dropOf_10 : decode bX11_dropOf 10 = .ok (.iadd, 1) := by decide +kernel
theorem dX11_dropOf_11 : decode bX11_dropOf 11 = .ok (.invokevirtual 268, 3) := by decide +kernel
theorem dX11_dropOf_14 : decode bX11_dropOf 14 = .ok (.isub, 1) := by decide +kernel
theorem dX11_dropOf_15 : decode bX11_dropOf 15 = .ok (.ireturn, 1) := by decide +kernel
theorem dX11_chill_0 : decode bX11_chill 0 = .ok (.aload_n 0, 1) := by decide +kernel
theorem dX11_chill_1 : decode bX11_chill 1 = .ok (.iconst 0, 1) := by decide +kernel
theorem dX11_chill_2 : decode bX11_chill 2 = .ok (.putfield 77, 3) := by decide +kernel
theorem dX11_chill_5 : decode bX11_chill 5 = .ok (.aload_n 0, 1) := by decide +kernel
theorem dX11_chill_6 : decode bX11_chill 6 = .ok (.iload_n 1, 1) := by decide +kernel
theorem dX11_chill_7 : decode bX11_chill 7 = .ok (.i2l, 1) := by decide +kernel
theorem dX11_chill_8 : decode bX11_chill 8 = .ok (.invokevirtual 237, 3) := by decide +kernel
theorem dX11_chill_11 : decode bX11_chill 11 = .ok (.ifCond .ne 6, 3) := by decide +kernel
theorem dX11_chill_14 : decode bX11_chill 14 = .ok (.bipush (-2), 2) := by decide +kernel
theorem dX11_chill_16 : decode bX11_chill 16 = .ok (.ireturn, 1) := by decide +kernel
theorem dX11_chill_17 : decode bX11_chill 17 = .ok (.aload_n 0, 1) := by decide +kernel
theorem dX11_chill_18 : decode bX11_chill 18 = .ok (.invokevirtual 311, 3) := by decide +kernel
theorem dX11_chill_21 : decode bX11_chill 21 = .ok (.iconst (-1), 1) := by decide +kernel
theorem dX11_chill_22 : decode bX11_chill 22 = .ok (.istore_n 2, 1) := by decide +kernel
theorem dX11_chill_23 : decode bX11_chill 23 = .ok (.iconst 0, 1) := by decide +kernel
theorem dX11_chill_24 : decode bX11_chill 24 = .ok (.istore_n 3, 1) := by decide +kernel
theorem dX11_chill_25 : decode bX11_chill 25 = .ok (.iload_n 3, 1) := by decide +kernel
theorem dX11_chill_26 : decode bX11_chill 26 = .ok (.aload_n 0, 1) := by decide +kernel
theorem dX11_chill_27 : decode bX11_chill 27 = .ok (.invokevirtual 234, 3) := by decide +kernel
theorem dX11_chill_30 : decode bX11_chill 30 = .ok (.if_icmp .ge 35, 3) := by decide +kernel
theorem dX11_chill_33 : decode bX11_chill 33 = .ok (.aload_n 0, 1) := by decide +kernel
theorem dX11_chill_34 : decode bX11_chill 34 = .ok (.iload_n 1, 1) := by decide +kernel
theorem dX11_chill_35 : decode bX11_chill 35 = .ok (.iload_n 3, 1) := by decide +kernel
theorem dX11_chill_36 : decode bX11_chill 36 = .ok (.invokevirtual 343, 3) := by decide +kernel
theorem dX11_chill_39 : decode bX11_chill 39 = .ok (.iload_n 2, 1) := by decide +kernel
theorem dX11_chill_40 : decode bX11_chill 40 = .ok (.iconst (-1), 1) := by decide +kernel
theorem dX11_chill_41 : decode bX11_chill 41 = .ok (.if_icmp .ne 7, 3) := by decide +kernel
theorem dX11_chill_44 : decode bX11_chill 44 = .ok (.iconst 0, 1) := by decide +kernel
theorem dX11_chill_45 : decode bX11_chill 45 = .ok (.goto 9, 3) := by decide +kernel
theorem dX11_chill_48 : decode bX11_chill 48 = .ok (.aload_n 0, 1) := by decide +kernel
theorem dX11_chill_49 : decode bX11_chill 49 = .ok (.iload_n 1, 1) := by decide +kernel
theorem dX11_chill_50 : decode bX11_chill 50 = .ok (.iload_n 2, 1) := by decide +kernel
theorem dX11_chill_51 : decode bX11_chill 51 = .ok (.invokevirtual 343, 3) := by decide +kernel
theorem dX11_chill_54 : decode bX11_chill 54 = .ok (.if_icmp .le 5, 3) := by decide +kernel
theorem dX11_chill_57 : decode bX11_chill 57 = .ok (.iload_n 3, 1) := by decide +kernel
theorem dX11_chill_58 : decode bX11_chill 58 = .ok (.istore_n 2, 1) := by decide +kernel
theorem dX11_chill_59 : decode bX11_chill 59 = .ok (.iinc 3 1, 3) := by decide +kernel
theorem dX11_chill_62 : decode bX11_chill 62 = .ok (.goto (-37), 3) := by decide +kernel
theorem dX11_chill_65 : decode bX11_chill 65 = .ok (.iload_n 2, 1) := by decide +kernel
theorem dX11_chill_66 : decode bX11_chill 66 = .ok (.ireturn, 1) := by decide +kernel
theorem dX11_drop_0 : decode bX11_drop 0 = .ok (.aload_n 0, 1) := by decide +kernel
theorem dX11_drop_1 : decode bX11_drop 1 = .ok (.iconst 0, 1) := by decide +kernel
theorem dX11_drop_2 : decode bX11_drop 2 = .ok (.putfield 77, 3) := by decide +kernel
theorem dX11_drop_5 : decode bX11_drop 5 = .ok (.aload_n 0, 1) := by decide +kernel
theorem dX11_drop_6 : decode bX11_drop 6 = .ok (.iload_n 1, 1) := by decide +kernel
theorem dX11_drop_7 : decode bX11_drop 7 = .ok (.i2l, 1) := by decide +kernel
theorem dX11_drop_8 : decode bX11_drop 8 = .ok (.invokevirtual 237, 3) := by decide +kernel
theorem dX11_drop_11 : decode bX11_drop 11 = .ok (.ifCond .eq 11, 3) := by decide +kernel
theorem dX11_drop_14 : decode bX11_drop 14 = .ok (.aload_n 0, 1) := by decide +kernel
theorem dX11_drop_15 : decode bX11_drop 15 = .ok (.iload_n 2, 1) := by decide +kernel
theorem dX11_drop_16 : decode bX11_drop 16 = .ok (.invokevirtual 346, 3) := by decide +kernel
theorem dX11_drop_19 : decode bX11_drop 19 = .ok (.ifCond .ne 7, 3) := by decide +kernel
theorem dX11_drop_22 : decode bX11_drop 22 = .ok (.ldc_w 349, 3) := by decide +kernel
theorem dX11_drop_25 : decode bX11_drop 25 = .ok (.ireturn, 1) := by decide +kernel
theorem dX11_drop_26 : decode bX11_drop 26 = .ok (.aload_n 0, 1) := by decide +kernel
theorem dX11_drop_27 : decode bX11_drop 27 = .ok (.invokevirtual 311, 3) := by decide +kernel
theorem dX11_drop_30 : decode bX11_drop 30 = .ok (.aload_n 0, 1) := by decide +kernel
theorem dX11_drop_31 : decode bX11_drop 31 = .ok (.iload_n 1, 1) := by decide +kernel
theorem dX11_drop_32 : decode bX11_drop 32 = .ok (.iload_n 2, 1) := by decide +kernel
theorem dX11_drop_33 : decode bX11_drop 33 = .ok (.invokevirtual 343, 3) := by decide +kernel
theorem dX11_drop_36 : decode bX11_drop 36 = .ok (.ireturn, 1) := by decide +kernel
theorem dX11_gaps_0 : decode bX11_gaps 0 = .ok (.aload_n 0, 1) := by decide +kernel
theorem dX11_gaps_1 : decode bX11_gaps 1 = .ok (.iconst 0, 1) := by decide +kernel
theorem dX11_gaps_2 : decode bX11_gaps 2 = .ok (.putfield 77, 3) := by decide +kernel
theorem dX11_gaps_5 : decode bX11_gaps 5 = .ok (.aload_n 0, 1) := by decide +kernel
theorem dX11_gaps_6 : decode bX11_gaps 6 = .ok (.iload_n 1, 1) := by decide +kernel
theorem dX11_gaps_7 : decode bX11_gaps 7 = .ok (.i2l, 1) := by decide +kernel
theorem dX11_gaps_8 : decode bX11_gaps 8 = .ok (.invokevirtual 237, 3) := by decide +kernel
theorem dX11_gaps_11 : decode bX11_gaps 11 = .ok (.ifCond .ne 6, 3) := by decide +kernel
theorem dX11_gaps_14 : decode bX11_gaps 14 = .ok (.bipush (-2), 2) := by decide +kernel
theorem dX11_gaps_16 : decode bX11_gaps 16 = .ok (.ireturn, 1) := by decide +kernel
theorem dX11_gaps_17 : decode bX11_gaps 17 = .ok (.aload_n 0, 1) := by decide +kernel
theorem dX11_gaps_18 : decode bX11_gaps 18 = .ok (.invokevirtual 311, 3) := by decide +kernel
theorem dX11_gaps_21 : decode bX11_gaps 21 = .ok (.iconst 0, 1) := by decide +kernel
theorem dX11_gaps_22 : decode bX11_gaps 22 = .ok (.istore_n 2, 1) := by decide +kernel
theorem dX11_gaps_23 : decode bX11_gaps 23 = .ok (.iconst 0, 1) := by decide +kernel
theorem dX11_gaps_24 : decode bX11_gaps 24 = .ok (.istore_n 3, 1) := by decide +kernel
theorem dX11_gaps_25 : decode bX11_gaps 25 = .ok (.iload_n 3, 1) := by decide +kernel
theorem dX11_gaps_26 : decode bX11_gaps 26 = .ok (.aload_n 0, 1) := by decide +kernel
theorem dX11_gaps_27 : decode bX11_gaps 27 = .ok (.invokevirtual 234, 3) := by decide +kernel
theorem dX11_gaps_30 : decode bX11_gaps 30 = .ok (.if_icmp .gt 38, 3) := by decide +kernel
theorem dX11_gaps_33 : decode bX11_gaps 33 = .ok (.iload_n 2, 1) := by decide +kernel
theorem dX11_gaps_34 : decode bX11_gaps 34 = .ok (.aload_n 0, 1) := by decide +kernel
theorem dX11_gaps_35 : decode bX11_gaps 35 = .ok (.iload_n 1, 1) := by decide +kernel
theorem dX11_gaps_36 : decode bX11_gaps 36 = .ok (.iload_n 3, 1) := by decide +kernel
theorem dX11_gaps_37 : decode bX11_gaps 37 = .ok (.invokevirtual 290, 3) := by decide +kernel
theorem dX11_gaps_40 : decode bX11_gaps 40 = .ok (.aload_n 0, 1) := by decide +kernel
theorem dX11_gaps_41 : decode bX11_gaps 41 = .ok (.getfield 40, 3) := by decide +kernel
theorem dX11_gaps_44 : decode bX11_gaps 44 = .ok (.iconst 4, 1) := by decide +kernel
theorem dX11_gaps_45 : decode bX11_gaps 45 = .ok (.iload_n 1, 1) := by decide +kernel
theorem dX11_gaps_46 : decode bX11_gaps 46 = .ok (.imul, 1) := by decide +kernel
theorem dX11_gaps_47 : decode bX11_gaps 47 = .ok (.iconst 2, 1) := by decide +kernel
theorem dX11_gaps_48 : decode bX11_gaps 48 = .ok (.iadd, 1) := by decide +kernel
theorem dX11_gaps_49 : decode bX11_gaps 49 = .ok (.iaload, 1) := by decide +kernel
theorem dX11_gaps_50 : decode bX11_gaps 50 = .ok (.iconst 2, 1) := by decide +kernel
theorem dX11_gaps_51 : decode bX11_gaps 51 = .ok (.idiv, 1) := by decide +kernel
theorem dX11_gaps_52 : decode bX11_gaps 52 = .ok (.if_icmp .le 7, 3) := by decide +kernel
theorem dX11_gaps_55 : decode bX11_gaps 55 = .ok (.iconst 1, 1) := by decide +kernel
theorem dX11_gaps_56 : decode bX11_gaps 56 = .ok (.goto 4, 3) := by decide +kernel
theorem dX11_gaps_59 : decode bX11_gaps 59 = .ok (.iconst 0, 1) := by decide +kernel
theorem dX11_gaps_60 : decode bX11_gaps 60 = .ok (.iadd, 1) := by decide +kernel
theorem dX11_gaps_61 : decode bX11_gaps 61 = .ok (.istore_n 2, 1) := by decide +kernel
theorem dX11_gaps_62 : decode bX11_gaps 62 = .ok (.iinc 3 1, 3) := by decide +kernel
theorem dX11_gaps_65 : decode bX11_gaps 65 = .ok (.goto (-40), 3) := by decide +kernel
theorem dX11_gaps_68 : decode bX11_gaps 68 = .ok (.iload_n 2, 1) := by decide +kernel
theorem dX11_gaps_69 : decode bX11_gaps 69 = .ok (.ireturn, 1) := by decide +kernel
theorem dX11_spread_0 : decode bX11_spread 0 = .ok (.aload_n 0, 1) := by decide +kernel
theorem dX11_spread_1 : decode bX11_spread 1 = .ok (.iconst 0, 1) := by decide +kernel
theorem dX11_spread_2 : decode bX11_spread 2 = .ok (.putfield 77, 3) := by decide +kernel
theorem dX11_spread_5 : decode bX11_spread 5 = .ok (.aload_n 0, 1) := by decide +kernel
theorem dX11_spread_6 : decode bX11_spread 6 = .ok (.iload_n 1, 1) := by decide +kernel
theorem dX11_spread_7 : decode bX11_spread 7 = .ok (.i2l, 1) := by decide +kernel
theorem dX11_spread_8 : decode bX11_spread 8 = .ok (.invokevirtual 240, 3) := by decide +kernel
theorem dX11_spread_11 : decode bX11_spread 11 = .ok (.ifCond .ne 6, 3) := by decide +kernel
theorem dX11_spread_14 : decode bX11_spread 14 = .ok (.bipush (-2), 2) := by decide +kernel
theorem dX11_spread_16 : decode bX11_spread 16 = .ok (.ireturn, 1) := by decide +kernel
theorem dX11_spread_17 : decode bX11_spread 17 = .ok (.aload_n 0, 1) := by decide +kernel
theorem dX11_spread_18 : decode bX11_spread 18 = .ok (.invokevirtual 311, 3) := by decide +kernel
theorem dX11_spread_21 : decode bX11_spread 21 = .ok (.aload_n 0, 1) := by decide +kernel
theorem dX11_spread_22 : decode bX11_spread 22 = .ok (.iload_n 1, 1) := by decide +kernel
theorem dX11_spread_23 : decode bX11_spread 23 = .ok (.iconst 1, 1) := by decide +kernel
theorem dX11_spread_24 : decode bX11_spread 24 = .ok (.invokevirtual 329, 3) := by decide +kernel
theorem dX11_spread_27 : decode bX11_spread 27 = .ok (.istore_n 2, 1) := by decide +kernel
theorem dX11_spread_28 : decode bX11_spread 28 = .ok (.iconst 0, 1) := by decide +kernel
theorem dX11_spread_29 : decode bX11_spread 29 = .ok (.istore_n 3, 1) := by decide +kernel
theorem dX11_spread_30 : decode bX11_spread 30 = .ok (.iconst 0, 1) := by decide +kernel
theorem dX11_spread_31 : decode bX11_spread 31 = .ok (.istore 4, 2) := by decide +kernel
theorem dX11_spread_33 : decode bX11_spread 33 = .ok (.iload 4, 2) := by decide +kernel
theorem dX11_spread_35 : decode bX11_spread 35 = .ok (.aload_n 0, 1) := by decide +kernel
theorem dX11_spread_36 : decode bX11_spread 36 = .ok (.invokevirtual 227, 3) := by decide +kernel
theorem dX11_spread_39 : decode bX11_spread 39 = .ok (.if_icmp .ge 38, 3) := by decide +kernel
theorem dX11_spread_42 : decode bX11_spread 42 = .ok (.aload_n 0, 1) := by decide +kernel
theorem dX11_spread_43 : decode bX11_spread 43 = .ok (.iload 4, 2) := by decide +kernel
theorem dX11_spread_45 : decode bX11_spread 45 = .ok (.iload_n 1, 1) := by decide +kernel
theorem dX11_spread_46 : decode bX11_spread 46 = .ok (.invokevirtual 317, 3) := by decide +kernel
theorem dX11_spread_49 : decode bX11_spread 49 = .ok (.ifCond .eq 22, 3) := by decide +kernel
theorem dX11_spread_52 : decode bX11_spread 52 = .ok (.iload_n 3, 1) := by decide +kernel
theorem dX11_spread_53 : decode bX11_spread 53 = .ok (.aload_n 0, 1) := by decide +kernel
theorem dX11_spread_54 : decode bX11_spread 54 = .ok (.iload_n 2, 1) := by decide +kernel
theorem dX11_spread_55 : decode bX11_spread 55 = .ok (.iload_n 1, 1) := by decide +kernel
theorem dX11_spread_56 : decode bX11_spread 56 = .ok (.invokevirtual 268, 3) := by decide +kernel
theorem dX11_spread_59 : decode bX11_spread 59 = .ok (.aload_n 0, 1) := by decide +kernel
theorem dX11_spread_60 : decode bX11_spread 60 = .ok (.iload 4, 2) := by decide +kernel
theorem dX11_spread_62 : decode bX11_spread 62 = .ok (.iload_n 1, 1) := by decide +kernel
theorem dX11_spread_63 : decode bX11_spread 63 = .ok (.invokevirtual 268, 3) := by decide +kernel
theorem dX11_spread_66 : decode bX11_spread 66 = .ok (.isub, 1) := by decide +kernel
theorem dX11_spread_67 : decode bX11_spread 67 = .ok (.invokestatic 262, 3) := by decide +kernel
theorem dX11_spread_70 : decode bX11_spread 70 = .ok (.istore_n 3, 1) := by decide +kernel
theorem dX11_spread_71 : decode bX11_spread 71 = .ok (.iinc 4 1, 3) := by decide +kernel
theorem dX11_spread_74 : decode bX11_spread 74 = .ok (.goto (-41), 3) := by decide +kernel
theorem dX11_spread_77 : decode bX11_spread 77 = .ok (.iload_n 3, 1) := by decide +kernel
theorem dX11_spread_78 : decode bX11_spread 78 = .ok (.ireturn, 1) := by decide +kernel
theorem dX11_coming_0 : decode bX11_coming 0 = .ok (.aload_n 0, 1) := by decide +kernel
theorem dX11_coming_1 : decode bX11_coming 1 = .ok (.iconst 0, 1) := by decide +kernel
theorem dX11_coming_2 : decode bX11_coming 2 = .ok (.putfield 77, 3) := by decide +kernel
theorem dX11_coming_5 : decode bX11_coming 5 = .ok (.aload_n 0, 1) := by decide +kernel
theorem dX11_coming_6 : decode bX11_coming 6 = .ok (.iload_n 1, 1) := by decide +kernel
theorem dX11_coming_7 : decode bX11_coming 7 = .ok (.i2l, 1) := by decide +kernel
theorem dX11_coming_8 : decode bX11_coming 8 = .ok (.invokevirtual 240, 3) := by decide +kernel
theorem dX11_coming_11 : decode bX11_coming 11 = .ok (.ifCond .ne 6, 3) := by decide +kernel
theorem dX11_coming_14 : decode bX11_coming 14 = .ok (.bipush (-2), 2) := by decide +kernel
theorem dX11_coming_16 : decode bX11_coming 16 = .ok (.ireturn, 1) := by decide +kernel
theorem dX11_coming_17 : decode bX11_coming 17 = .ok (.iconst 0, 1) := by decide +kernel
theorem dX11_coming_18 : decode bX11_coming 18 = .ok (.istore_n 2, 1) := by decide +kernel
theorem dX11_coming_19 : decode bX11_coming 19 = .ok (.iconst 0, 1) := by decide +kernel
theorem dX11_coming_20 : decode bX11_coming 20 = .ok (.istore_n 3, 1) := by decide +kernel
theorem dX11_coming_21 : decode bX11_coming 21 = .ok (.iload_n 3, 1) := by decide +kernel
theorem dX11_coming_22 : decode bX11_coming 22 = .ok (.aload_n 0, 1) := by decide +kernel
theorem dX11_coming_23 : decode bX11_coming 23 = .ok (.invokevirtual 227, 3) := by decide +kernel
theorem dX11_coming_26 : decode bX11_coming 26 = .ok (.if_icmp .ge 28, 3) := by decide +kernel
theorem dX11_coming_29 : decode bX11_coming 29 = .ok (.iload_n 2, 1) := by decide +kernel
theorem dX11_coming_30 : decode bX11_coming 30 = .ok (.aload_n 0, 1) := by decide +kernel
theorem dX11_coming_31 : decode bX11_coming 31 = .ok (.iload_n 3, 1) := by decide +kernel
theorem dX11_coming_32 : decode bX11_coming 32 = .ok (.invokevirtual 265, 3) := by decide +kernel
theorem dX11_coming_35 : decode bX11_coming 35 = .ok (.iload_n 1, 1) := by decide +kernel
theorem dX11_coming_36 : decode bX11_coming 36 = .ok (.if_icmp .ne 9, 3) := by decide +kernel
theorem dX11_coming_39 : decode bX11_coming 39 = .ok (.iconst 1, 1) := by decide +kernel
theorem dX11_coming_40 : decode bX11_coming 40 = .ok (.iload_n 3, 1) := by decide +kernel
theorem dX11_coming_41 : decode bX11_coming 41 = .ok (.ishl, 1) := by decide +kernel
theorem dX11_coming_42 : decode bX11_coming 42 = .ok (.goto 4, 3) := by decide +kernel
theorem dX11_coming_45 : decode bX11_coming 45 = .ok (.iconst 0, 1) := by decide +kernel
theorem dX11_coming_46 : decode bX11_coming 46 = .ok (.ior, 1) := by decide +kernel
theorem dX11_coming_47 : decode bX11_coming 47 = .ok (.istore_n 2, 1) := by decide +kernel
theorem dX11_coming_48 : decode bX11_coming 48 = .ok (.iinc 3 1, 3) := by decide +kernel
theorem dX11_coming_51 : decode bX11_coming 51 = .ok (.goto (-30), 3) := by decide +kernel
theorem dX11_coming_54 : decode bX11_coming 54 = .ok (.iload_n 2, 1) := by decide +kernel
theorem dX11_coming_55 : decode bX11_coming 55 = .ok (.ireturn, 1) := by decide +kernel
theorem dX11_cracked_0 : decode bX11_cracked 0 = .ok (.aload_n 0, 1) := by decide +kernel
theorem dX11_cracked_1 : decode bX11_cracked 1 = .ok (.iconst 0, 1) := by decide +kernel
theorem dX11_cracked_2 : decode bX11_cracked 2 = .ok (.putfield 77, 3) := by decide +kernel
theorem dX11_cracked_5 : decode bX11_cracked 5 = .ok (.aload_n 0, 1) := by decide +kernel
theorem dX11_cracked_6 : decode bX11_cracked 6 = .ok (.iload_n 1, 1) := by decide +kernel
theorem dX11_cracked_7 : decode bX11_cracked 7 = .ok (.i2l, 1) := by decide +kernel
theorem dX11_cracked_8 : decode bX11_cracked 8 = .ok (.invokevirtual 240, 3) := by decide +kernel
theorem dX11_cracked_11 : decode bX11_cracked 11 = .ok (.ifCond .ne 6, 3) := by decide +kernel
theorem dX11_cracked_14 : decode bX11_cracked 14 = .ok (.bipush (-2), 2) := by decide +kernel
theorem dX11_cracked_16 : decode bX11_cracked 16 = .ok (.ireturn, 1) := by decide +kernel
theorem dX11_cracked_17 : decode bX11_cracked 17 = .ok (.aload_n 0, 1) := by decide +kernel
theorem dX11_cracked_18 : decode bX11_cracked 18 = .ok (.invokevirtual 311, 3) := by decide +kernel
theorem dX11_cracked_21 : decode bX11_cracked 21 = .ok (.aload_n 0, 1) := by decide +kernel
theorem dX11_cracked_22 : decode bX11_cracked 22 = .ok (.iload_n 1, 1) := by decide +kernel
theorem dX11_cracked_23 : decode bX11_cracked 23 = .ok (.invokevirtual 332, 3) := by decide +kernel
theorem dX11_cracked_26 : decode bX11_cracked 26 = .ok (.ireturn, 1) := by decide +kernel
theorem dX11_tally_0 : decode bX11_tally 0 = .ok (.aload_n 0, 1) := by decide +kernel
theorem dX11_tally_1 : decode bX11_tally 1 = .ok (.iconst 0, 1) := by decide +kernel
theorem dX11_tally_2 : decode bX11_tally 2 = .ok (.putfield 77, 3) := by decide +kernel
theorem dX11_tally_5 : decode bX11_tally 5 = .ok (.aload_n 0, 1) := by decide +kernel
theorem dX11_tally_6 : decode bX11_tally 6 = .ok (.invokevirtual 231, 3) := by decide +kernel
theorem dX11_tally_9 : decode bX11_tally 9 = .ok (.ifCond .eq 15, 3) := by decide +kernel
theorem dX11_tally_12 : decode bX11_tally 12 = .ok (.iload_n 1, 1) := by decide +kernel
theorem dX11_tally_13 : decode bX11_tally 13 = .ok (.i2l, 1) := by decide +kernel
theorem dX11_tally_14 : decode bX11_tally 14 = .ok (.lconst 0, 1) := by decide +kernel
theorem dX11_tally_15 : decode bX11_tally 15 = .ok (.ldc2_w 350, 3) := by decide +kernel
theorem dX11_tally_18 : decode bX11_tally 18 = .ok (.invokestatic 82, 3) := by decide +kernel
theorem dX11_tally_21 : decode bX11_tally 21 = .ok (.ifCond .ne 6, 3) := by decide +kernel
theorem dX11_tally_24 : decode bX11_tally 24 = .ok (.bipush (-2), 2) := by decide +kernel
theorem dX11_tally_26 : decode bX11_tally 26 = .ok (.ireturn, 1) := by decide +kernel
theorem dX11_tally_27 : decode bX11_tally 27 = .ok (.aload_n 0, 1) := by decide +kernel
theorem dX11_tally_28 : decode bX11_tally 28 = .ok (.invokevirtual 311, 3) := by decide +kernel
theorem dX11_tally_31 : decode bX11_tally 31 = .ok (.iconst 0, 1) := by decide +kernel
theorem dX11_tally_32 : decode bX11_tally 32 = .ok (.istore_n 2, 1) := by decide +kernel
theorem dX11_tally_33 : decode bX11_tally 33 = .ok (.iconst 0, 1) := by decide +kernel
theorem dX11_tally_34 : decode bX11_tally 34 = .ok (.istore_n 3, 1) := by decide +kernel
theorem dX11_tally_35 : decode bX11_tally 35 = .ok (.iload_n 3, 1) := by decide +kernel
theorem dX11_tally_36 : decode bX11_tally 36 = .ok (.aload_n 0, 1) := by decide +kernel
theorem dX11_tally_37 : decode bX11_tally 37 = .ok (.invokevirtual 227, 3) := by decide +kernel
theorem dX11_tally_40 : decode bX11_tally 40 = .ok (.if_icmp .ge 27, 3) := by decide +kernel
theorem dX11_tally_43 : decode bX11_tally 43 = .ok (.iload_n 2, 1) := by decide +kernel
theorem dX11_tally_44 : decode bX11_tally 44 = .ok (.aload_n 0, 1) := by decide +kernel
theorem dX11_tally_45 : decode bX11_tally 45 = .ok (.getfield 74, 3) := by decide +kernel
theorem dX11_tally_48 : decode bX11_tally 48 = .ok (.iload_n 3, 1) := by decide +kernel
theorem dX11_tally_49 : decode bX11_tally 49 = .ok (.iaload, 1) := by decide +kernel
theorem dX11_tally_50 : decode bX11_tally 50 = .ok (.iload_n 1, 1) := by decide +kernel
theorem dX11_tally_51 : decode bX11_tally 51 = .ok (.if_icmp .ne 7, 3) := by decide +kernel
theorem dX11_tally_54 : decode bX11_tally 54 = .ok (.iconst 1, 1) := by decide +kernel
theorem dX11_tally_55 : decode bX11_tally 55 = .ok (.goto 4, 3) := by decide +kernel
theorem dX11_tally_58 : decode bX11_tally 58 = .ok (.iconst 0, 1) := by decide +kernel
theorem dX11_tally_59 : decode bX11_tally 59 = .ok (.iadd, 1) := by decide +kernel
theorem dX11_tally_60 : decode bX11_tally 60 = .ok (.istore_n 2, 1) := by decide +kernel
theorem dX11_tally_61 : decode bX11_tally 61 = .ok (.iinc 3 1, 3) := by decide +kernel
theorem dX11_tally_64 : decode bX11_tally 64 = .ok (.goto (-29), 3) := by decide +kernel
theorem dX11_tally_67 : decode bX11_tally 67 = .ok (.iload_n 2, 1) := by decide +kernel
theorem dX11_tally_68 : decode bX11_tally 68 = .ok (.ireturn, 1) := by decide +kernel
theorem dX11_last_0 : decode bX11_last 0 = .ok (.aload_n 0, 1) := by decide +kernel
theorem dX11_last_1 : decode bX11_last 1 = .ok (.iconst 0, 1) := by decide +kernel
theorem dX11_last_2 : decode bX11_last 2 = .ok (.putfield 77, 3) := by decide +kernel
theorem dX11_last_5 : decode bX11_last 5 = .ok (.aload_n 0, 1) := by decide +kernel
theorem dX11_last_6 : decode bX11_last 6 = .ok (.iload_n 1, 1) := by decide +kernel
theorem dX11_last_7 : decode bX11_last 7 = .ok (.invokevirtual 302, 3) := by decide +kernel
theorem dX11_last_10 : decode bX11_last 10 = .ok (.ifCond .ne 6, 3) := by decide +kernel
theorem dX11_last_13 : decode bX11_last 13 = .ok (.bipush (-2), 2) := by decide +kernel
theorem dX11_last_15 : decode bX11_last 15 = .ok (.ireturn, 1) := by decide +kernel
theorem dX11_last_16 : decode bX11_last 16 = .ok (.aload_n 0, 1) := by decide +kernel
theorem dX11_last_17 : decode bX11_last 17 = .ok (.invokevirtual 296, 3) := by decide +kernel
theorem dX11_last_20 : decode bX11_last 20 = .ok (.aload_n 0, 1) := by decide +kernel
theorem dX11_last_21 : decode bX11_last 21 = .ok (.invokevirtual 234, 3) := by decide +kernel
theorem dX11_last_24 : decode bX11_last 24 = .ok (.istore_n 2, 1) := by decide +kernel
theorem dX11_last_25 : decode bX11_last 25 = .ok (.iload_n 2, 1) := by decide +kernel
theorem dX11_last_26 : decode bX11_last 26 = .ok (.ifCond .lt 20, 3) := by decide +kernel
theorem dX11_last_29 : decode bX11_last 29 = .ok (.aload_n 0, 1) := by decide +kernel
theorem dX11_last_30 : decode bX11_last 30 = .ok (.iload_n 1, 1) := by decide +kernel
theorem dX11_last_31 : decode bX11_last 31 = .ok (.iload_n 2, 1) := by decide +kernel
theorem dX11_last_32 : decode bX11_last 32 = .ok (.invokevirtual 308, 3) := by decide +kernel
theorem dX11_last_35 : decode bX11_last 35 = .ok (.ifCond .eq 5, 3) := by decide +kernel
theorem dX11_last_38 : decode bX11_last 38 = .ok (.iload_n 2, 1) := by decide +kernel
theorem dX11_last_39 : decode bX11_last 39 = .ok (.ireturn, 1) := by decide +kernel
theorem dX11_last_40 : decode bX11_last 40 = .ok (.iinc 2 (-1), 3) := by decide +kernel
theorem dX11_last_43 : decode bX11_last 43 = .ok (.goto (-18), 3) := by decide +kernel
theorem dX11_last_46 : decode bX11_last 46 = .ok (.iconst (-1), 1) := by decide +kernel
theorem dX11_last_47 : decode bX11_last 47 = .ok (.ireturn, 1) := by decide +kernel
theorem dX11_busyOf_0 : decode bX11_busyOf 0 = .ok (.iconst 0, 1) := by decide +kernel
theorem dX11_busyOf_1 : decode bX11_busyOf 1 = .ok (.istore_n 2, 1) := by decide +kernel
theorem dX11_busyOf_2 : decode bX11_busyOf 2 = .ok (.iconst 0, 1) := by decide +kernel
theorem dX11_busyOf_3 : decode bX11_busyOf 3 = .ok (.istore_n 3, 1) := by decide +kernel
theorem dX11_busyOf_4 : decode bX11_busyOf 4 = .ok (.iload_n 3, 1) := by decide +kernel
theorem dX11_busyOf_5 : decode bX11_busyOf 5 = .ok (.aload_n 0, 1) := by decide +kernel
theorem dX11_busyOf_6 : decode bX11_busyOf 6 = .ok (.invokevirtual 234, 3) := by decide +kernel
theorem dX11_busyOf_9 : decode bX11_busyOf 9 = .ok (.if_icmp .gt 26, 3) := by decide +kernel
theorem dX11_busyOf_12 : decode bX11_busyOf 12 = .ok (.iload_n 2, 1) := by decide +kernel
theorem dX11_busyOf_13 : decode bX11_busyOf 13 = .ok (.aload_n 0, 1) := by decide +kernel
theorem dX11_busyOf_14 : decode bX11_busyOf 14 = .ok (.iload_n 1, 1) := by decide +kernel
theorem dX11_busyOf_15 : decode bX11_busyOf 15 = .ok (.iload_n 3, 1) := by decide +kernel
theorem dX11_busyOf_16 : decode bX11_busyOf 16 = .ok (.invokevirtual 308, 3) := by decide +kernel
theorem dX11_busyOf_19 : decode bX11_busyOf 19 = .ok (.ifCond .ne 7, 3) := by decide +kernel
theorem dX11_busyOf_22 : decode bX11_busyOf 22 = .ok (.iconst 0, 1) := by decide +kernel
theorem dX11_busyOf_23 : decode bX11_busyOf 23 = .ok (.goto 4, 3) := by decide +kernel
theorem dX11_busyOf_26 : decode bX11_busyOf 26 = .ok (.iconst 1, 1) := by decide +kernel
theorem dX11_busyOf_27 : decode bX11_busyOf 27 = .ok (.iadd, 1) := by decide +kernel
theorem dX11_busyOf_28 : decode bX11_busyOf 28 = .ok (.istore_n 2, 1) := by decide +kernel
theorem dX11_busyOf_29 : decode bX11_busyOf 29 = .ok (.iinc 3 1, 3) := by decide +kernel
theorem dX11_busyOf_32 : decode bX11_busyOf 32 = .ok (.goto (-28), 3) := by decide +kernel
theorem dX11_busyOf_35 : decode bX11_busyOf 35 = .ok (.iload_n 2, 1) := by decide +kernel
theorem dX11_busyOf_36 : decode bX11_busyOf 36 = .ok (.ireturn, 1) := by decide +kernel
theorem dX11_busy_0 : decode bX11_busy 0 = .ok (.aload_n 0, 1) := by decide +kernel
theorem dX11_busy_1 : decode bX11_busy 1 = .ok (.iconst 0, 1) := by decide +kernel
theorem dX11_busy_2 : decode bX11_busy 2 = .ok (.putfield 77, 3) := by decide +kernel
theorem dX11_busy_5 : decode bX11_busy 5 = .ok (.aload_n 0, 1) := by decide +kernel
theorem dX11_busy_6 : decode bX11_busy 6 = .ok (.iload_n 1, 1) := by decide +kernel
theorem dX11_busy_7 : decode bX11_busy 7 = .ok (.invokevirtual 302, 3) := by decide +kernel
theorem dX11_busy_10 : decode bX11_busy 10 = .ok (.ifCond .ne 6, 3) := by decide +kernel
theorem dX11_busy_13 : decode bX11_busy 13 = .ok (.bipush (-2), 2) := by decide +kernel
theorem dX11_busy_15 : decode bX11_busy 15 = .ok (.ireturn, 1) := by decide +kernel
theorem dX11_busy_16 : decode bX11_busy 16 = .ok (.aload_n 0, 1) := by decide +kernel
theorem dX11_busy_17 : decode bX11_busy 17 = .ok (.invokevirtual 296, 3) := by decide +kernel
theorem dX11_busy_20 : decode bX11_busy 20 = .ok (.aload_n 0, 1) := by decide +kernel
theorem dX11_busy_21 : decode bX11_busy 21 = .ok (.iload_n 1, 1) := by decide +kernel
theorem dX11_busy_22 : decode bX11_busy 22 = .ok (.invokevirtual 352, 3) := by decide +kernel
theorem dX11_busy_25 : decode bX11_busy 25 = .ok (.ireturn, 1) := by decide +kernel
theorem dX11_idle_0 : decode bX11_idle 0 = .ok (.aload_n 0, 1) := by decide +kernel
theorem dX11_idle_1 : decode bX11_idle 1 = .ok (.iconst 0, 1) := by decide +kernel
theorem dX11_idle_2 : decode bX11_idle 2 = .ok (.putfield 77, 3) := by decide +kernel
theorem dX11_idle_5 : decode bX11_idle 5 = .ok (.aload_n 0, 1) := by decide +kernel
theorem dX11_idle_6 : decode bX11_idle 6 = .ok (.invokevirtual 231, 3) := by decide +kernel
theorem dX11_idle_9 : decode bX11_idle 9 = .ok (.ifCond .ne 6, 3) := by decide +kernel
theorem dX11_idle_12 : decode bX11_idle 12 = .ok (.bipush (-2), 2) := by decide +kernel
theorem dX11_idle_14 : decode bX11_idle 14 = .ok (.ireturn, 1) := by decide +kernel
theorem dX11_idle_15 : decode bX11_idle 15 = .ok (.aload_n 0, 1) := by decide +kernel
theorem dX11_idle_16 : decode bX11_idle 16 = .ok (.invokevirtual 296, 3) := by decide +kernel
theorem dX11_idle_19 : decode bX11_idle 19 = .ok (.iconst 0, 1) := by decide +kernel
theorem dX11_idle_20 : decode bX11_idle 20 = .ok (.istore_n 1, 1) := by decide +kernel
theorem dX11_idle_21 : decode bX11_idle 21 = .ok (.iconst 0, 1) := by decide +kernel
theorem dX11_idle_22 : decode bX11_idle 22 = .ok (.istore_n 2, 1) := by decide +kernel
theorem dX11_idle_23 : decode bX11_idle 23 = .ok (.iload_n 2, 1) := by decide +kernel
theorem dX11_idle_24 : decode bX11_idle 24 = .ok (.aload_n 0, 1) := by decide +kernel
theorem dX11_idle_25 : decode bX11_idle 25 = .ok (.getfield 252, 3) := by decide +kernel
theorem dX11_idle_28 : decode bX11_idle 28 = .ok (.if_icmp .ge 27, 3) := by decide +kernel
theorem dX11_idle_31 : decode bX11_idle 31 = .ok (.iload_n 1, 1) := by decide +kernel
theorem dX11_idle_32 : decode bX11_idle 32 = .ok (.aload_n 0, 1) := by decide +kernel
theorem dX11_idle_33 : decode bX11_idle 33 = .ok (.iload_n 2, 1) := by decide +kernel
theorem dX11_idle_34 : decode bX11_idle 34 = .ok (.invokevirtual 352, 3) := by decide +kernel
theorem dX11_idle_37 : decode bX11_idle 37 = .ok (.ifCond .ne 9, 3) := by decide +kernel
theorem dX11_idle_40 : decode bX11_idle 40 = .ok (.iconst 1, 1) := by decide +kernel
theorem dX11_idle_41 : decode bX11_idle 41 = .ok (.iload_n 2, 1) := by decide +kernel
theorem dX11_idle_42 : decode bX11_idle 42 = .ok (.ishl, 1) := by decide +kernel
theorem dX11_idle_43 : decode bX11_idle 43 = .ok (.goto 4, 3) := by decide +kernel
theorem dX11_idle_46 : decode bX11_idle 46 = .ok (.iconst 0, 1) := by decide +kernel
theorem dX11_idle_47 : decode bX11_idle 47 = .ok (.ior, 1) := by decide +kernel
theorem dX11_idle_48 : decode bX11_idle 48 = .ok (.istore_n 1, 1) := by decide +kernel
theorem dX11_idle_49 : decode bX11_idle 49 = .ok (.iinc 2 1, 3) := by decide +kernel
theorem dX11_idle_52 : decode bX11_idle 52 = .ok (.goto (-29), 3) := by decide +kernel
theorem dX11_idle_55 : decode bX11_idle 55 = .ok (.iload_n 1, 1) := by decide +kernel
theorem dX11_idle_56 : decode bX11_idle 56 = .ok (.ireturn, 1) := by decide +kernel
theorem dX11_stiff_0 : decode bX11_stiff 0 = .ok (.aload_n 0, 1) := by decide +kernel
theorem dX11_stiff_1 : decode bX11_stiff 1 = .ok (.iconst 0, 1) := by decide +kernel
theorem dX11_stiff_2 : decode bX11_stiff 2 = .ok (.putfield 77, 3) := by decide +kernel
theorem dX11_stiff_5 : decode bX11_stiff 5 = .ok (.aload_n 0, 1) := by decide +kernel
theorem dX11_stiff_6 : decode bX11_stiff 6 = .ok (.iload_n 1, 1) := by decide +kernel
theorem dX11_stiff_7 : decode bX11_stiff 7 = .ok (.i2l, 1) := by decide +kernel
theorem dX11_stiff_8 : decode bX11_stiff 8 = .ok (.invokevirtual 240, 3) := by decide +kernel
theorem dX11_stiff_11 : decode bX11_stiff 11 = .ok (.ifCond .ne 6, 3) := by decide +kernel
theorem dX11_stiff_14 : decode bX11_stiff 14 = .ok (.bipush (-2), 2) := by decide +kernel
theorem dX11_stiff_16 : decode bX11_stiff 16 = .ok (.ireturn, 1) := by decide +kernel
theorem dX11_stiff_17 : decode bX11_stiff 17 = .ok (.aload_n 0, 1) := by decide +kernel
theorem dX11_stiff_18 : decode bX11_stiff 18 = .ok (.invokevirtual 311, 3) := by decide +kernel
theorem dX11_stiff_21 : decode bX11_stiff 21 = .ok (.iconst 0, 1) := by decide +kernel
theorem dX11_stiff_22 : decode bX11_stiff 22 = .ok (.istore_n 2, 1) := by decide +kernel
theorem dX11_stiff_23 : decode bX11_stiff 23 = .ok (.iconst 0, 1) := by decide +kernel
theorem dX11_stiff_24 : decode bX11_stiff 24 = .ok (.istore_n 3, 1) := by decide +kernel
theorem dX11_stiff_25 : decode bX11_stiff 25 = .ok (.iload_n 3, 1) := by decide +kernel
theorem dX11_stiff_26 : decode bX11_stiff 26 = .ok (.aload_n 0, 1) := by decide +kernel
theorem dX11_stiff_27 : decode bX11_stiff 27 = .ok (.invokevirtual 227, 3) := by decide +kernel
theorem dX11_stiff_30 : decode bX11_stiff 30 = .ok (.if_icmp .ge 43, 3) := by decide +kernel
theorem dX11_stiff_33 : decode bX11_stiff 33 = .ok (.iload_n 2, 1) := by decide +kernel
theorem dX11_stiff_34 : decode bX11_stiff 34 = .ok (.aload_n 0, 1) := by decide +kernel
theorem dX11_stiff_35 : decode bX11_stiff 35 = .ok (.iload_n 3, 1) := by decide +kernel
theorem dX11_stiff_36 : decode bX11_stiff 36 = .ok (.iload_n 1, 1) := by decide +kernel
theorem dX11_stiff_37 : decode bX11_stiff 37 = .ok (.invokevirtual 317, 3) := by decide +kernel
theorem dX11_stiff_40 : decode bX11_stiff 40 = .ok (.ifCond .eq 24, 3) := by decide +kernel
theorem dX11_stiff_43 : decode bX11_stiff 43 = .ok (.aload_n 0, 1) := by decide +kernel
theorem dX11_stiff_44 : decode bX11_stiff 44 = .ok (.iload_n 3, 1) := by decide +kernel
theorem dX11_stiff_45 : decode bX11_stiff 45 = .ok (.iload_n 1, 1) := by decide +kernel
theorem dX11_stiff_46 : decode bX11_stiff 46 = .ok (.invokevirtual 271, 3) := by decide +kernel
theorem dX11_stiff_49 : decode bX11_stiff 49 = .ok (.aload_n 0, 1) := by decide +kernel
theorem dX11_stiff_50 : decode bX11_stiff 50 = .ok (.getfield 34, 3) := by decide +kernel
theorem dX11_stiff_53 : decode bX11_stiff 53 = .ok (.iconst 4, 1) := by decide +kernel
theorem dX11_stiff_54 : decode bX11_stiff 54 = .ok (.iaload, 1) := by decide +kernel
theorem dX11_stiff_55 : decode bX11_stiff 55 = .ok (.if_icmp .ge 9, 3) := by decide +kernel
theorem dX11_stiff_58 : decode bX11_stiff 58 = .ok (.iconst 1, 1) := by decide +kernel
theorem dX11_stiff_59 : decode bX11_stiff 59 = .ok (.iload_n 3, 1) := by decide +kernel
theorem dX11_stiff_60 : decode bX11_stiff 60 = .ok (.ishl, 1) := by decide +kernel
theorem dX11_stiff_61 : decode bX11_stiff 61 = .ok (.goto 4, 3) := by decide +kernel
theorem dX11_stiff_64 : decode bX11_stiff 64 = .ok (.iconst 0, 1) := by decide +kernel
theorem dX11_stiff_65 : decode bX11_stiff 65 = .ok (.ior, 1) := by decide +kernel
theorem dX11_stiff_66 : decode bX11_stiff 66 = .ok (.istore_n 2, 1) := by decide +kernel
theorem dX11_stiff_67 : decode bX11_stiff 67 = .ok (.iinc 3 1, 3) := by decide +kernel
theorem dX11_stiff_70 : decode bX11_stiff 70 = .ok (.goto (-45), 3) := by decide +kernel
theorem dX11_stiff_73 : decode bX11_stiff 73 = .ok (.iload_n 2, 1) := by decide +kernel
theorem dX11_stiff_74 : decode bX11_stiff 74 = .ok (.ireturn, 1) := by decide +kernel
theorem dX11_isSound_0 : decode bX11_isSound 0 = .ok (.aload_n 0, 1) := by decide +kernel
theorem dX11_isSound_1 : decode bX11_isSound 1 = .ok (.invokevirtual 299, 3) := by decide +kernel
theorem dX11_isSound_4 : decode bX11_isSound 4 = .ok (.aload_n 0, 1) := by decide +kernel
theorem dX11_isSound_5 : decode bX11_isSound 5 = .ok (.getfield 71, 3) := by decide +kernel
theorem dX11_isSound_8 : decode bX11_isSound 8 = .ok (.iload_n 1, 1) := by decide +kernel
theorem dX11_isSound_9 : decode bX11_isSound 9 = .ok (.iaload, 1) := by decide +kernel
theorem dX11_isSound_10 : decode bX11_isSound 10 = .ok (.iconst (-1), 1) := by decide +kernel
theorem dX11_isSound_11 : decode bX11_isSound 11 = .ok (.if_icmp .ne 7, 3) := by decide +kernel
theorem dX11_isSound_14 : decode bX11_isSound 14 = .ok (.iconst 1, 1) := by decide +kernel
theorem dX11_isSound_15 : decode bX11_isSound 15 = .ok (.goto 4, 3) := by decide +kernel
theorem dX11_isSound_18 : decode bX11_isSound 18 = .ok (.iconst 0, 1) := by decide +kernel
theorem dX11_isSound_19 : decode bX11_isSound 19 = .ok (.ireturn, 1) := by decide +kernel
theorem dX11_spare_0 : decode bX11_spare 0 = .ok (.aload_n 0, 1) := by decide +kernel
theorem dX11_spare_1 : decode bX11_spare 1 = .ok (.iconst 0, 1) := by decide +kernel
theorem dX11_spare_2 : decode bX11_spare 2 = .ok (.putfield 77, 3) := by decide +kernel
theorem dX11_spare_5 : decode bX11_spare 5 = .ok (.aload_n 0, 1) := by decide +kernel
theorem dX11_spare_6 : decode bX11_spare 6 = .ok (.iload_n 1, 1) := by decide +kernel
theorem dX11_spare_7 : decode bX11_spare 7 = .ok (.i2l, 1) := by decide +kernel
theorem dX11_spare_8 : decode bX11_spare 8 = .ok (.invokevirtual 237, 3) := by decide +kernel
theorem dX11_spare_11 : decode bX11_spare 11 = .ok (.ifCond .ne 6, 3) := by decide +kernel
theorem dX11_spare_14 : decode bX11_spare 14 = .ok (.bipush (-2), 2) := by decide +kernel
theorem dX11_spare_16 : decode bX11_spare 16 = .ok (.ireturn, 1) := by decide +kernel
theorem dX11_spare_17 : decode bX11_spare 17 = .ok (.aload_n 0, 1) := by decide +kernel
theorem dX11_spare_18 : decode bX11_spare 18 = .ok (.invokevirtual 296, 3) := by decide +kernel
theorem dX11_spare_21 : decode bX11_spare 21 = .ok (.aload_n 0, 1) := by decide +kernel
theorem dX11_spare_22 : decode bX11_spare 22 = .ok (.iload_n 1, 1) := by decide +kernel
theorem dX11_spare_23 : decode bX11_spare 23 = .ok (.invokevirtual 355, 3) := by decide +kernel
theorem dX11_spare_26 : decode bX11_spare 26 = .ok (.ifCond .ne 5, 3) := by decide +kernel
theorem dX11_spare_29 : decode bX11_spare 29 = .ok (.iconst (-1), 1) := by decide +kernel
theorem dX11_spare_30 : decode bX11_spare 30 = .ok (.ireturn, 1) := by decide +kernel
theorem dX11_spare_31 : decode bX11_spare 31 = .ok (.iconst 0, 1) := by decide +kernel
theorem dX11_spare_32 : decode bX11_spare 32 = .ok (.istore_n 2, 1) := by decide +kernel
theorem dX11_spare_33 : decode bX11_spare 33 = .ok (.iload_n 2, 1) := by decide +kernel
theorem dX11_spare_34 : decode bX11_spare 34 = .ok (.aload_n 0, 1) := by decide +kernel
theorem dX11_spare_35 : decode bX11_spare 35 = .ok (.getfield 40, 3) := by decide +kernel
theorem dX11_spare_38 : decode bX11_spare 38 = .ok (.iconst 4, 1) := by decide +kernel
theorem dX11_spare_39 : decode bX11_spare 39 = .ok (.iload_n 1, 1) := by decide +kernel
theorem dX11_spare_40 : decode bX11_spare 40 = .ok (.imul, 1) := by decide +kernel
theorem dX11_spare_41 : decode bX11_spare 41 = .ok (.iconst 2, 1) := by decide +kernel
theorem dX11_spare_42 : decode bX11_spare 42 = .ok (.iadd, 1) := by decide +kernel
theorem dX11_spare_43 : decode bX11_spare 43 = .ok (.iaload, 1) := by decide +kernel
theorem dX11_spare_44 : decode bX11_spare 44 = .ok (.if_icmp .ge 39, 3) := by decide +kernel
theorem dX11_spare_47 : decode bX11_spare 47 = .ok (.aload_n 0, 1) := by decide +kernel
theorem dX11_spare_48 : decode bX11_spare 48 = .ok (.getfield 56, 3) := by decide +kernel
theorem dX11_spare_51 : decode bX11_spare 51 = .ok (.iload_n 1, 1) := by decide +kernel
theorem dX11_spare_52 : decode bX11_spare 52 = .ok (.aload_n 0, 1) := by decide +kernel
theorem dX11_spare_53 : decode bX11_spare 53 = .ok (.getfield 40, 3) := by decide +kernel
theorem dX11_spare_56 : decode bX11_spare 56 = .ok (.iconst 4, 1) := by decide +kernel
theorem dX11_spare_57 : decode bX11_spare 57 = .ok (.iload_n 1, 1) := by decide +kernel
theorem dX11_spare_58 : decode bX11_spare 58 = .ok (.imul, 1) := by decide +kernel
theorem dX11_spare_59 : decode bX11_spare 59 = .ok (.iconst 2, 1) := by decide +kernel
theorem dX11_spare_60 : decode bX11_spare 60 = .ok (.iadd, 1) := by decide +kernel
theorem dX11_spare_61 : decode bX11_spare 61 = .ok (.iaload, 1) := by decide +kernel
theorem dX11_spare_62 : decode bX11_spare 62 = .ok (.iload_n 2, 1) := by decide +kernel
theorem dX11_spare_63 : decode bX11_spare 63 = .ok (.isub, 1) := by decide +kernel
theorem dX11_spare_64 : decode bX11_spare 64 = .ok (.iconst 1, 1) := by decide +kernel
theorem dX11_spare_65 : decode bX11_spare 65 = .ok (.isub, 1) := by decide +kernel
theorem dX11_spare_66 : decode bX11_spare 66 = .ok (.iastore, 1) := by decide +kernel
theorem dX11_spare_67 : decode bX11_spare 67 = .ok (.aload_n 0, 1) := by decide +kernel
theorem dX11_spare_68 : decode bX11_spare 68 = .ok (.iload_n 1, 1) := by decide +kernel
theorem dX11_spare_69 : decode bX11_spare 69 = .ok (.invokevirtual 355, 3) := by decide +kernel
theorem dX11_spare_72 : decode bX11_spare 72 = .ok (.ifCond .ne 5, 3) := by decide +kernel
theorem dX11_spare_75 : decode bX11_spare 75 = .ok (.iload_n 2, 1) := by decide +kernel
theorem dX11_spare_76 : decode bX11_spare 76 = .ok (.ireturn, 1) := by decide +kernel
theorem dX11_spare_77 : decode bX11_spare 77 = .ok (.iinc 2 1, 3) := by decide +kernel
theorem dX11_spare_80 : decode bX11_spare 80 = .ok (.goto (-47), 3) := by decide +kernel
theorem dX11_spare_83 : decode bX11_spare 83 = .ok (.iload_n 2, 1) := by decide +kernel
theorem dX11_spare_84 : decode bX11_spare 84 = .ok (.ireturn, 1) := by decide +kernel
theorem dX11_needs_0 : decode bX11_needs 0 = .ok (.aload_n 0, 1) := by decide +kernel
theorem dX11_needs_1 : decode bX11_needs 1 = .ok (.iconst 0, 1) := by decide +kernel
theorem dX11_needs_2 : decode bX11_needs 2 = .ok (.putfield 77, 3) := by decide +kernel
theorem dX11_needs_5 : decode bX11_needs 5 = .ok (.aload_n 0, 1) := by decide +kernel
theorem dX11_needs_6 : decode bX11_needs 6 = .ok (.iload_n 1, 1) := by decide +kernel
theorem dX11_needs_7 : decode bX11_needs 7 = .ok (.i2l, 1) := by decide +kernel
theorem dX11_needs_8 : decode bX11_needs 8 = .ok (.invokevirtual 237, 3) := by decide +kernel
theorem dX11_needs_11 : decode bX11_needs 11 = .ok (.ifCond .ne 6, 3) := by decide +kernel
theorem dX11_needs_14 : decode bX11_needs 14 = .ok (.bipush (-2), 2) := by decide +kernel
theorem dX11_needs_16 : decode bX11_needs 16 = .ok (.ireturn, 1) := by decide +kernel
theorem dX11_needs_17 : decode bX11_needs 17 = .ok (.aload_n 0, 1) := by decide +kernel
theorem dX11_needs_18 : decode bX11_needs 18 = .ok (.invokevirtual 296, 3) := by decide +kernel
theorem dX11_needs_21 : decode bX11_needs 21 = .ok (.iconst 0, 1) := by decide +kernel
theorem dX11_needs_22 : decode bX11_needs 22 = .ok (.istore_n 2, 1) := by decide +kernel
theorem dX11_needs_23 : decode bX11_needs 23 = .ok (.iload_n 2, 1) := by decide +kernel
theorem dX11_needs_24 : decode bX11_needs 24 = .ok (.sipush 300, 3) := by decide +kernel
theorem dX11_needs_27 : decode bX11_needs 27 = .ok (.if_icmp .gt 26, 3) := by decide +kernel
theorem dX11_needs_30 : decode bX11_needs 30 = .ok (.aload_n 0, 1) := by decide +kernel
theorem dX11_needs_31 : decode bX11_needs 31 = .ok (.getfield 56, 3) := by decide +kernel
theorem dX11_needs_34 : decode bX11_needs 34 = .ok (.iload_n 1, 1) := by decide +kernel
theorem dX11_needs_35 : decode bX11_needs 35 = .ok (.iload_n 2, 1) := by decide +kernel
theorem dX11_needs_36 : decode bX11_needs 36 = .ok (.iastore, 1) := by decide +kernel
theorem dX11_needs_37 : decode bX11_needs 37 = .ok (.aload_n 0, 1) := by decide +kernel
theorem dX11_needs_38 : decode bX11_needs 38 = .ok (.iload_n 1, 1) := by decide +kernel
theorem dX11_needs_39 : decode bX11_needs 39 = .ok (.invokevirtual 355, 3) := by decide +kernel
theorem dX11_needs_42 : decode bX11_needs 42 = .ok (.ifCond .eq 5, 3) := by decide +kernel
theorem dX11_needs_45 : decode bX11_needs 45 = .ok (.iload_n 2, 1) := by decide +kernel
theorem dX11_needs_46 : decode bX11_needs 46 = .ok (.ireturn, 1) := by decide +kernel
theorem dX11_needs_47 : decode bX11_needs 47 = .ok (.iinc 2 1, 3) := by decide +kernel
theorem dX11_needs_50 : decode bX11_needs 50 = .ok (.goto (-27), 3) := by decide +kernel
theorem dX11_needs_53 : decode bX11_needs 53 = .ok (.iconst (-1), 1) := by decide +kernel
theorem dX11_needs_54 : decode bX11_needs 54 = .ok (.ireturn, 1) := by decide +kernel
theorem dX11_thin_0 : decode bX11_thin 0 = .ok (.aload_n 0, 1) := by decide +kernel
theorem dX11_thin_1 : decode bX11_thin 1 = .ok (.iconst 0, 1) := by decide +kernel
theorem dX11_thin_2 : decode bX11_thin 2 = .ok (.putfield 77, 3) := by decide +kernel
theorem dX11_thin_5 : decode bX11_thin 5 = .ok (.aload_n 0, 1) := by decide +kernel
theorem dX11_thin_6 : decode bX11_thin 6 = .ok (.iload_n 1, 1) := by decide +kernel
theorem dX11_thin_7 : decode bX11_thin 7 = .ok (.i2l, 1) := by decide +kernel
theorem dX11_thin_8 : decode bX11_thin 8 = .ok (.invokevirtual 237, 3) := by decide +kernel
theorem dX11_thin_11 : decode bX11_thin 11 = .ok (.ifCond .ne 6, 3) := by decide +kernel
theorem dX11_thin_14 : decode bX11_thin 14 = .ok (.bipush (-2), 2) := by decide +kernel
theorem dX11_thin_16 : decode bX11_thin 16 = .ok (.ireturn, 1) := by decide +kernel
theorem dX11_thin_17 : decode bX11_thin 17 = .ok (.aload_n 0, 1) := by decide +kernel
theorem dX11_thin_18 : decode bX11_thin 18 = .ok (.invokevirtual 296, 3) := by decide +kernel
theorem dX11_thin_21 : decode bX11_thin 21 = .ok (.bipush 9, 2) := by decide +kernel
theorem dX11_thin_23 : decode bX11_thin 23 = .ok (.istore_n 2, 1) := by decide +kernel
theorem dX11_thin_24 : decode bX11_thin 24 = .ok (.iload_n 2, 1) := by decide +kernel
theorem dX11_thin_25 : decode bX11_thin 25 = .ok (.ifCond .le 26, 3) := by decide +kernel
theorem dX11_thin_28 : decode bX11_thin 28 = .ok (.aload_n 0, 1) := by decide +kernel
theorem dX11_thin_29 : decode bX11_thin 29 = .ok (.getfield 53, 3) := by decide +kernel
theorem dX11_thin_32 : decode bX11_thin 32 = .ok (.iload_n 1, 1) := by decide +kernel
theorem dX11_thin_33 : decode bX11_thin 33 = .ok (.iload_n 2, 1) := by decide +kernel
theorem dX11_thin_34 : decode bX11_thin 34 = .ok (.iastore, 1) := by decide +kernel
theorem dX11_thin_35 : decode bX11_thin 35 = .ok (.aload_n 0, 1) := by decide +kernel
theorem dX11_thin_36 : decode bX11_thin 36 = .ok (.iload_n 1, 1) := by decide +kernel
theorem dX11_thin_37 : decode bX11_thin 37 = .ok (.invokevirtual 355, 3) := by decide +kernel
theorem dX11_thin_40 : decode bX11_thin 40 = .ok (.ifCond .eq 5, 3) := by decide +kernel
theorem dX11_thin_43 : decode bX11_thin 43 = .ok (.iload_n 2, 1) := by decide +kernel
theorem dX11_thin_44 : decode bX11_thin 44 = .ok (.ireturn, 1) := by decide +kernel
theorem dX11_thin_45 : decode bX11_thin 45 = .ok (.iinc 2 (-1), 3) := by decide +kernel
theorem dX11_thin_48 : decode bX11_thin 48 = .ok (.goto (-24), 3) := by decide +kernel
theorem dX11_thin_51 : decode bX11_thin 51 = .ok (.iconst (-1), 1) := by decide +kernel
theorem dX11_thin_52 : decode bX11_thin 52 = .ok (.ireturn, 1) := by decide +kernel
theorem dX11_soundBy_0 : decode bX11_soundBy 0 = .ok (.aload_n 0, 1) := by decide +kernel
theorem dX11_soundBy_1 : decode bX11_soundBy 1 = .ok (.invokevirtual 296, 3) := by decide +kernel
theorem dX11_soundBy_4 : decode bX11_soundBy 4 = .ok (.aload_n 0, 1) := by decide +kernel
theorem dX11_soundBy_5 : decode bX11_soundBy 5 = .ok (.iload_n 1, 1) := by decide +kernel
theorem dX11_soundBy_6 : decode bX11_soundBy 6 = .ok (.putfield 246, 3) := by decide +kernel
theorem dX11_soundBy_9 : decode bX11_soundBy 9 = .ok (.aload_n 0, 1) := by decide +kernel
theorem dX11_soundBy_10 : decode bX11_soundBy 10 = .ok (.invokevirtual 299, 3) := by decide +kernel
theorem dX11_soundBy_13 : decode bX11_soundBy 13 = .ok (.aload_n 0, 1) := by decide +kernel
theorem dX11_soundBy_14 : decode bX11_soundBy 14 = .ok (.invokevirtual 323, 3) := by decide +kernel
theorem dX11_soundBy_17 : decode bX11_soundBy 17 = .ok (.invokestatic 335, 3) := by decide +kernel
theorem dX11_soundBy_20 : decode bX11_soundBy 20 = .ok (.ireturn, 1) := by decide +kernel
theorem dX11_bestPace_0 : decode bX11_bestPace 0 = .ok (.iconst 1, 1) := by decide +kernel
theorem dX11_bestPace_1 : decode bX11_bestPace 1 = .ok (.istore_n 1, 1) := by decide +kernel
theorem dX11_bestPace_2 : decode bX11_bestPace 2 = .ok (.iconst 2, 1) := by decide +kernel
theorem dX11_bestPace_3 : decode bX11_bestPace 3 = .ok (.istore_n 2, 1) := by decide +kernel
theorem dX11_bestPace_4 : decode bX11_bestPace 4 = .ok (.iload_n 2, 1) := by decide +kernel
theorem dX11_bestPace_5 : decode bX11_bestPace 5 = .ok (.bipush 6, 2) := by decide +kernel
theorem dX11_bestPace_7 : decode bX11_bestPace 7 = .ok (.if_icmp .gt 24, 3) := by decide +kernel
theorem dX11_bestPace_10 : decode bX11_bestPace 10 = .ok (.aload_n 0, 1) := by decide +kernel
theorem dX11_bestPace_11 : decode bX11_bestPace 11 = .ok (.iload_n 2, 1) := by decide +kernel
theorem dX11_bestPace_12 : decode bX11_bestPace 12 = .ok (.invokevirtual 358, 3) := by decide +kernel
theorem dX11_bestPace_15 : decode bX11_bestPace 15 = .ok (.aload_n 0, 1) := by decide +kernel
theorem dX11_bestPace_16 : decode bX11_bestPace 16 = .ok (.iload_n 1, 1) := by decide +kernel
theorem dX11_bestPace_17 : decode bX11_bestPace 17 = .ok (.invokevirtual 358, 3) := by decide +kernel
theorem dX11_bestPace_20 : decode bX11_bestPace 20 = .ok (.if_icmp .le 5, 3) := by decide +kernel
theorem dX11_bestPace_23 : decode bX11_bestPace 23 = .ok (.iload_n 2, 1) := by decide +kernel
theorem dX11_bestPace_24 : decode bX11_bestPace 24 = .ok (.istore_n 1, 1) := by decide +kernel
theorem dX11_bestPace_25 : decode bX11_bestPace 25 = .ok (.iinc 2 1, 3) := by decide +kernel
theorem dX11_bestPace_28 : decode bX11_bestPace 28 = .ok (.goto (-24), 3) := by decide +kernel
theorem dX11_bestPace_31 : decode bX11_bestPace 31 = .ok (.iload_n 1, 1) := by decide +kernel
theorem dX11_bestPace_32 : decode bX11_bestPace 32 = .ok (.ireturn, 1) := by decide +kernel
theorem dX11_pace_0 : decode bX11_pace 0 = .ok (.aload_n 0, 1) := by decide +kernel
theorem dX11_pace_1 : decode bX11_pace 1 = .ok (.iconst 0, 1) := by decide +kernel
theorem dX11_pace_2 : decode bX11_pace 2 = .ok (.putfield 77, 3) := by decide +kernel
theorem dX11_pace_5 : decode bX11_pace 5 = .ok (.aload_n 0, 1) := by decide +kernel
theorem dX11_pace_6 : decode bX11_pace 6 = .ok (.invokevirtual 231, 3) := by decide +kernel
theorem dX11_pace_9 : decode bX11_pace 9 = .ok (.ifCond .eq 10, 3) := by decide +kernel
theorem dX11_pace_12 : decode bX11_pace 12 = .ok (.aload_n 0, 1) := by decide +kernel
theorem dX11_pace_13 : decode bX11_pace 13 = .ok (.invokevirtual 361, 3) := by decide +kernel
theorem dX11_pace_16 : decode bX11_pace 16 = .ok (.goto 5, 3) := by decide +kernel
theorem dX11_pace_19 : decode bX11_pace 19 = .ok (.bipush (-2), 2) := by decide +kernel
theorem dX11_pace_21 : decode bX11_pace 21 = .ok (.ireturn, 1) := by decide +kernel
theorem dX11_paced_0 : decode bX11_paced 0 = .ok (.aload_n 0, 1) := by decide +kernel
theorem dX11_paced_1 : decode bX11_paced 1 = .ok (.iconst 0, 1) := by decide +kernel
theorem dX11_paced_2 : decode bX11_paced 2 = .ok (.putfield 77, 3) := by decide +kernel
theorem dX11_paced_5 : decode bX11_paced 5 = .ok (.aload_n 0, 1) := by decide +kernel
theorem dX11_paced_6 : decode bX11_paced 6 = .ok (.invokevirtual 231, 3) := by decide +kernel
theorem dX11_paced_9 : decode bX11_paced 9 = .ok (.ifCond .eq 14, 3) := by decide +kernel
theorem dX11_paced_12 : decode bX11_paced 12 = .ok (.aload_n 0, 1) := by decide +kernel
theorem dX11_paced_13 : decode bX11_paced 13 = .ok (.aload_n 0, 1) := by decide +kernel
theorem dX11_paced_14 : decode bX11_paced 14 = .ok (.invokevirtual 361, 3) := by decide +kernel
theorem dX11_paced_17 : decode bX11_paced 17 = .ok (.invokevirtual 358, 3) := by decide +kernel
theorem dX11_paced_20 : decode bX11_paced 20 = .ok (.goto 5, 3) := by decide +kernel
theorem dX11_paced_23 : decode bX11_paced 23 = .ok (.bipush (-2), 2) := by decide +kernel
theorem dX11_paced_25 : decode bX11_paced 25 = .ok (.ireturn, 1) := by decide +kernel
theorem dX11_raiseOf_0 : decode bX11_raiseOf 0 = .ok (.iconst 0, 1) := by decide +kernel
theorem dX11_raiseOf_1 : decode bX11_raiseOf 1 = .ok (.istore_n 3, 1) := by decide +kernel
theorem dX11_raiseOf_2 : decode bX11_raiseOf 2 = .ok (.iload_n 3, 1) := by decide +kernel
theorem dX11_raiseOf_3 : decode bX11_raiseOf 3 = .ok (.sipush 200, 3) := by decide +kernel
theorem dX11_raiseOf_6 : decode bX11_raiseOf 6 = .ok (.if_icmp .gt 33, 3) := by decide +kernel
theorem dX11_raiseOf_9 : decode bX11_raiseOf 9 = .ok (.aload_n 0, 1) := by decide +kernel
theorem dX11_raiseOf_10 : decode bX11_raiseOf 10 = .ok (.invokevirtual 296, 3) := by decide +kernel
theorem dX11_raiseOf_13 : decode bX11_raiseOf 13 = .ok (.aload_n 0, 1) := by decide +kernel
theorem dX11_raiseOf_14 : decode bX11_raiseOf 14 = .ok (.getfield 50, 3) := by decide +kernel
theorem dX11_raiseOf_17 : decode bX11_raiseOf 17 = .ok (.iload_n 1, 1) := by decide +kernel
theorem dX11_raiseOf_18 : decode bX11_raiseOf 18 = .ok (.dup2, 1) := by decide +kernel
theorem dX11_raiseOf_19 : decode bX11_raiseOf 19 = .ok (.iaload, 1) := by decide +kernel
theorem dX11_raiseOf_20 : decode bX11_raiseOf 20 = .ok (.iload_n 3, 1) := by decide +kernel
theorem dX11_raiseOf_21 : decode bX11_raiseOf 21 = .ok (.iadd, 1) := by decide +kernel
theorem dX11_raiseOf_22 : decode bX11_raiseOf 22 = .ok (.iastore, 1) := by decide +kernel
theorem dX11_raiseOf_23 : decode bX11_raiseOf 23 = .ok (.aload_n 0, 1) := by decide +kernel
theorem dX11_raiseOf_24 : decode bX11_raiseOf 24 = .ok (.iload_n 2, 1) := by decide +kernel
theorem dX11_raiseOf_25 : decode bX11_raiseOf 25 = .ok (.invokevirtual 355, 3) := by decide +kernel
theorem dX11_raiseOf_28 : decode bX11_raiseOf 28 = .ok (.ifCond .eq 5, 3) := by decide +kernel
theorem dX11_raiseOf_31 : decode bX11_raiseOf 31 = .ok (.iload_n 3, 1) := by decide +kernel
theorem dX11_raiseOf_32 : decode bX11_raiseOf 32 = .ok (.ireturn, 1) := by decide +kernel
theorem dX11_raiseOf_33 : decode bX11_raiseOf 33 = .ok (.iinc 3 1, 3) := by decide +kernel
theorem dX11_raiseOf_36 : decode bX11_raiseOf 36 = .ok (.goto (-34), 3) := by decide +kernel
theorem dX11_raiseOf_39 : decode bX11_raiseOf 39 = .ok (.iconst (-1), 1) := by decide +kernel
theorem dX11_raiseOf_40 : decode bX11_raiseOf 40 = .ok (.ireturn, 1) := by decide +kernel
theorem dX11_raise_0 : decode bX11_raise 0 = .ok (.aload_n 0, 1) := by decide +kernel
theorem dX11_raise_1 : decode bX11_raise 1 = .ok (.iconst 0, 1) := by decide +kernel
theorem dX11_raise_2 : decode bX11_raise 2 = .ok (.putfield 77, 3) := by decide +kernel
theorem dX11_raise_5 : decode bX11_raise 5 = .ok (.aload_n 0, 1) := by decide +kernel
theorem dX11_raise_6 : decode bX11_raise 6 = .ok (.iload_n 1, 1) := by decide +kernel
theorem dX11_raise_7 : decode bX11_raise 7 = .ok (.invokevirtual 302, 3) := by decide +kernel
theorem dX11_raise_10 : decode bX11_raise 10 = .ok (.ifCond .eq 21, 3) := by decide +kernel
theorem dX11_raise_13 : decode bX11_raise 13 = .ok (.aload_n 0, 1) := by decide +kernel
theorem dX11_raise_14 : decode bX11_raise 14 = .ok (.iload_n 2, 1) := by decide +kernel
theorem dX11_raise_15 : decode bX11_raise 15 = .ok (.i2l, 1) := by decide +kernel
theorem dX11_raise_16 : decode bX11_raise 16 = .ok (.invokevirtual 237, 3) := by decide +kernel
theorem dX11_raise_19 : decode bX11_raise 19 = .ok (.ifCond .eq 12, 3) := by decide +kernel
theorem dX11_raise_22 : decode bX11_raise 22 = .ok (.aload_n 0, 1) := by decide +kernel
theorem dX11_raise_23 : decode bX11_raise 23 = .ok (.iload_n 1, 1) := by decide +kernel
theorem dX11_raise_24 : decode bX11_raise 24 = .ok (.iload_n 2, 1) := by decide +kernel
theorem dX11_raise_25 : decode bX11_raise 25 = .ok (.invokevirtual 364, 3) := by decide +kernel
theorem dX11_raise_28 : decode bX11_raise 28 = .ok (.goto 5, 3) := by decide +kernel
theorem dX11_raise_31 : decode bX11_raise 31 = .ok (.bipush (-2), 2) := by decide +kernel
theorem dX11_raise_33 : decode bX11_raise 33 = .ok (.ireturn, 1) := by decide +kernel
theorem dX11_rescue_0 : decode bX11_rescue 0 = .ok (.aload_n 0, 1) := by decide +kernel
theorem dX11_rescue_1 : decode bX11_rescue 1 = .ok (.iconst 0, 1) := by decide +kernel
theorem dX11_rescue_2 : decode bX11_rescue 2 = .ok (.putfield 77, 3) := by decide +kernel
theorem dX11_rescue_5 : decode bX11_rescue 5 = .ok (.aload_n 0, 1) := by decide +kernel
theorem dX11_rescue_6 : decode bX11_rescue 6 = .ok (.iload_n 1, 1) := by decide +kernel
theorem dX11_rescue_7 : decode bX11_rescue 7 = .ok (.i2l, 1) := by decide +kernel
theorem dX11_rescue_8 : decode bX11_rescue 8 = .ok (.invokevirtual 237, 3) := by decide +kernel
theorem dX11_rescue_11 : decode bX11_rescue 11 = .ok (.ifCond .ne 6, 3) := by decide +kernel
theorem dX11_rescue_14 : decode bX11_rescue 14 = .ok (.bipush (-2), 2) := by decide +kernel
theorem dX11_rescue_16 : decode bX11_rescue 16 = .ok (.ireturn, 1) := by decide +kernel
theorem dX11_rescue_17 : decode bX11_rescue 17 = .ok (.iconst (-1), 1) := by decide +kernel
theorem dX11_rescue_18 : decode bX11_rescue 18 = .ok (.istore_n 2, 1) := by decide +kernel
theorem dX11_rescue_19 : decode bX11_rescue 19 = .ok (.ldc 128, 2) := by decide +kernel
theorem dX11_rescue_21 : decode bX11_rescue 21 = .ok (.istore_n 3, 1) := by decide +kernel
theorem dX11_rescue_22 : decode bX11_rescue 22 = .ok (.iconst 0, 1) := by decide +kernel
theorem dX11_rescue_23 : decode bX11_rescue 23 = .ok (.istore 4, 2) := by decide +kernel
theorem dX11_rescue_25 : decode bX11_rescue 25 = .ok (.iload 4, 2) := by decide +kernel
theorem dX11_rescue_27 : decode bX11_rescue 27 = .ok (.aload_n 0, 1) := by decide +kernel
theorem dX11_rescue_28 : decode bX11_rescue 28 = .ok (.getfield 34, 3) := by decide +kernel
theorem dX11_rescue_31 : decode bX11_rescue 31 = .ok (.iconst 5, 1) := by decide +kernel
theorem dX11_rescue_32 : decode bX11_rescue 32 = .ok (.iaload, 1) := by decide +kernel
theorem dX11_rescue_33 : decode bX11_rescue 33 = .ok (.if_icmp .ge 39, 3) := by decide +kernel
theorem dX11_rescue_36 : decode bX11_rescue 36 = .ok (.aload_n 0, 1) := by decide +kernel
theorem dX11_rescue_37 : decode bX11_rescue 37 = .ok (.iload 4, 2) := by decide +kernel
theorem dX11_rescue_39 : decode bX11_rescue 39 = .ok (.iload_n 1, 1) := by decide +kernel
theorem dX11_rescue_40 : decode bX11_rescue 40 = .ok (.invokevirtual 364, 3) := by decide +kernel
theorem dX11_rescue_43 : decode bX11_rescue 43 = .ok (.istore 5, 2) := by decide +kernel
theorem dX11_rescue_45 : decode bX11_rescue 45 = .ok (.iload 5, 2) := by decide +kernel
theorem dX11_rescue_47 : decode bX11_rescue 47 = .ok (.iconst (-1), 1) := by decide +kernel
theorem dX11_rescue_48 : decode bX11_rescue 48 = .ok (.if_icmp .eq 18, 3) := by decide +kernel
theorem dX11_rescue_51 : decode bX11_rescue 51 = .ok (.iload 5, 2) := by decide +kernel
theorem dX11_rescue_53 : decode bX11_rescue 53 = .ok (.iload_n 3, 1) := by decide +kernel
theorem dX11_rescue_54 : decode bX11_rescue 54 = .ok (.if_icmp .lt 6, 3) := by decide +kernel
theorem dX11_rescue_57 : decode bX11_rescue 57 = .ok (.goto 9, 3) := by decide +kernel
theorem dX11_rescue_60 : decode bX11_rescue 60 = .ok (.iload 4, 2) := by decide +kernel
theorem dX11_rescue_62 : decode bX11_rescue 62 = .ok (.istore_n 2, 1) := by decide +kernel
theorem dX11_rescue_63 : decode bX11_rescue 63 = .ok (.iload 5, 2) := by decide +kernel
theorem dX11_rescue_65 : decode bX11_rescue 65 = .ok (.istore_n 3, 1) := by decide +kernel
theorem dX11_rescue_66 : decode bX11_rescue 66 = .ok (.iinc 4 1, 3) := by decide +kernel
theorem dX11_rescue_69 : decode bX11_rescue 69 = .ok (.goto (-44), 3) := by decide +kernel
theorem dX11_rescue_72 : decode bX11_rescue 72 = .ok (.iload_n 2, 1) := by decide +kernel
theorem dX11_rescue_73 : decode bX11_rescue 73 = .ok (.ireturn, 1) := by decide +kernel
theorem dX11_swap_0 : decode bX11_swap 0 = .ok (.aload_n 0, 1) := by decide +kernel
theorem dX11_swap_1 : decode bX11_swap 1 = .ok (.iconst 0, 1) := by decide +kernel
theorem dX11_swap_2 : decode bX11_swap 2 = .ok (.putfield 77, 3) := by decide +kernel
theorem dX11_swap_5 : decode bX11_swap 5 = .ok (.aload_n 0, 1) := by decide +kernel
theorem dX11_swap_6 : decode bX11_swap 6 = .ok (.invokevirtual 231, 3) := by decide +kernel
theorem dX11_swap_9 : decode bX11_swap 9 = .ok (.ifCond .ne 6, 3) := by decide +kernel
theorem dX11_swap_12 : decode bX11_swap 12 = .ok (.bipush (-2), 2) := by decide +kernel
theorem dX11_swap_14 : decode bX11_swap 14 = .ok (.ireturn, 1) := by decide +kernel
theorem dX11_swap_15 : decode bX11_swap 15 = .ok (.aload_n 0, 1) := by decide +kernel
theorem dX11_swap_16 : decode bX11_swap 16 = .ok (.invokevirtual 311, 3) := by decide +kernel
theorem dX11_swap_19 : decode bX11_swap 19 = .ok (.iconst (-1), 1) := by decide +kernel
theorem dX11_swap_20 : decode bX11_swap 20 = .ok (.istore_n 1, 1) := by decide +kernel
theorem dX11_swap_21 : decode bX11_swap 21 = .ok (.aload_n 0, 1) := by decide +kernel
theorem dX11_swap_22 : decode bX11_swap 22 = .ok (.invokevirtual 323, 3) := by decide +kernel
theorem dX11_swap_25 : decode bX11_swap 25 = .ok (.invokestatic 335, 3) := by decide +kernel
theorem dX11_swap_28 : decode bX11_swap 28 = .ok (.istore_n 2, 1) := by decide +kernel
theorem dX11_swap_29 : decode bX11_swap 29 = .ok (.iconst 0, 1) := by decide +kernel
theorem dX11_swap_30 : decode bX11_swap 30 = .ok (.istore_n 3, 1) := by decide +kernel
theorem dX11_swap_31 : decode bX11_swap 31 = .ok (.iload_n 3, 1) := by decide +kernel
theorem dX11_swap_32 : decode bX11_swap 32 = .ok (.aload_n 0, 1) := by decide +kernel
theorem dX11_swap_33 : decode bX11_swap 33 = .ok (.getfield 34, 3) := by decide +kernel
theorem dX11_swap_36 : decode bX11_swap 36 = .ok (.iconst 5, 1) := by decide +kernel
theorem dX11_swap_37 : decode bX11_swap 37 = .ok (.iaload, 1) := by decide +kernel
theorem dX11_swap_38 : decode bX11_swap 38 = .ok (.if_icmp .ge 95, 3) := by decide +kernel
theorem dX11_swap_41 : decode bX11_swap 41 = .ok (.iload_n 3, 1) := by decide +kernel
theorem dX11_swap_42 : decode bX11_swap 42 = .ok (.iconst 1, 1) := by decide +kernel
theorem dX11_swap_43 : decode bX11_swap 43 = .ok (.iadd, 1) := by decide +kernel
theorem dX11_swap_44 : decode bX11_swap 44 = .ok (.istore 4, 2) := by decide +kernel
theorem dX11_swap_46 : decode bX11_swap 46 = .ok (.iload 4, 2) := by decide +kernel
theorem dX11_swap_48 : decode bX11_swap 48 = .ok (.aload_n 0, 1) := by decide +kernel
theorem dX11_swap_49 : decode bX11_swap 49 = .ok (.getfield 34, 3) := by decide +kernel
theorem dX11_swap_52 : decode bX11_swap 52 = .ok (.iconst 5, 1) := by decide +kernel
theorem dX11_swap_53 : decode bX11_swap 53 = .ok (.iaload, 1) := by decide +kernel
theorem dX11_swap_54 : decode bX11_swap 54 = .ok (.if_icmp .ge 73, 3) := by decide +kernel
theorem dX11_swap_57 : decode bX11_swap 57 = .ok (.aload_n 0, 1) := by decide +kernel
theorem dX11_swap_58 : decode bX11_swap 58 = .ok (.invokevirtual 296, 3) := by decide +kernel
theorem dX11_swap_61 : decode bX11_swap 61 = .ok (.aload_n 0, 1) := by decide +kernel
theorem dX11_swap_62 : decode bX11_swap 62 = .ok (.getfield 50, 3) := by decide +kernel
theorem dX11_swap_65 : decode bX11_swap 65 = .ok (.iload_n 3, 1) := by decide +kernel
theorem dX11_swap_66 : decode bX11_swap 66 = .ok (.aload_n 0, 1) := by decide +kernel
theorem dX11_swap_67 : decode bX11_swap 67 = .ok (.getfield 37, 3) := by decide +kernel
theorem dX11_swap_70 : decode bX11_swap 70 = .ok (.iload 4, 2) := by decide +kernel
theorem dX11_swap_72 : decode bX11_swap 72 = .ok (.iaload, 1) := by decide +kernel
theorem dX11_swap_73 : decode bX11_swap 73 = .ok (.iastore, 1) := by decide +kernel
theorem dX11_swap_74 : decode bX11_swap 74 = .ok (.aload_n 0, 1) := by decide +kernel
theorem dX11_swap_75 : decode bX11_swap 75 = .ok (.getfield 50, 3) := by decide +kernel
theorem dX11_swap_78 : decode bX11_swap 78 = .ok (.iload 4, 2) := by decide +kernel
theorem dX11_swap_80 : decode bX11_swap 80 = .ok (.aload_n 0, 1) := by decide +kernel
theorem dX11_swap_81 : decode bX11_swap 81 = .ok (.getfield 37, 3) := by decide +kernel
theorem dX11_swap_84 : decode bX11_swap 84 = .ok (.iload_n 3, 1) := by decide +kernel
theorem dX11_swap_85 : decode bX11_swap 85 = .ok (.iaload, 1) := by decide +kernel
theorem dX11_swap_86 : decode bX11_swap 86 = .ok (.iastore, 1) := by decide +kernel
theorem dX11_swap_87 : decode bX11_swap 87 = .ok (.aload_n 0, 1) := by decide +kernel
theorem dX11_swap_88 : decode bX11_swap 88 = .ok (.invokevirtual 299, 3) := by decide +kernel
theorem dX11_swap_91 : decode bX11_swap 91 = .ok (.aload_n 0, 1) := by decide +kernel
theorem dX11_swap_92 : decode bX11_swap 92 = .ok (.invokevirtual 323, 3) := by decide +kernel
theorem dX11_swap_95 : decode bX11_swap 95 = .ok (.invokestatic 335, 3) := by decide +kernel
theorem dX11_swap_98 : decode bX11_swap 98 = .ok (.iload_n 2, 1) := by decide +kernel
theorem dX11_swap_99 : decode bX11_swap 99 = .ok (.if_icmp .gt 6, 3) := by decide +kernel
theorem dX11_swap_102 : decode bX11_swap 102 = .ok (.goto 19, 3) := by decide +kernel
theorem dX11_swap_105 : decode bX11_swap 105 = .ok (.bipush 10, 2) := by decide +kernel
theorem dX11_swap_107 : decode bX11_swap 107 = .ok (.iload_n 3, 1) := by decide +kernel
theorem dX11_swap_108 : decode bX11_swap 108 = .ok (.imul, 1) := by decide +kernel
theorem dX11_swap_109 : decode bX11_swap 109 = .ok (.iload 4, 2) := by decide +kernel
theorem dX11_swap_111 : decode bX11_swap 111 = .ok (.iadd, 1) := by decide +kernel
theorem dX11_swap_112 : decode bX11_swap 112 = .ok (.istore_n 1, 1) := by decide +kernel
theorem dX11_swap_113 : decode bX11_swap 113 = .ok (.aload_n 0, 1) := by decide +kernel
theorem dX11_swap_114 : decode bX11_swap 114 = .ok (.invokevirtual 323, 3) := by decide +kernel
theorem dX11_swap_117 : decode bX11_swap 117 = .ok (.invokestatic 335, 3) := by decide +kernel
theorem dX11_swap_120 : decode bX11_swap 120 = .ok (.istore_n 2, 1) := by decide +kernel
theorem dX11_swap_121 : decode bX11_swap 121 = .ok (.iinc 4 1, 3) := by decide +kernel
theorem dX11_swap_124 : decode bX11_swap 124 = .ok (.goto (-78), 3) := by decide +kernel
theorem dX11_swap_127 : decode bX11_swap 127 = .ok (.iinc 3 1, 3) := by decide +kernel
theorem dX11_swap_130 : decode bX11_swap 130 = .ok (.goto (-99), 3) := by decide +kernel
theorem dX11_swap_133 : decode bX11_swap 133 = .ok (.iload_n 1, 1) := by decide +kernel
theorem dX11_swap_134 : decode bX11_swap 134 = .ok (.ireturn, 1) := by decide +kernel
theorem dX11_skip_0 : decode bX11_skip 0 = .ok (.aload_n 0, 1) := by decide +kernel
theorem dX11_skip_1 : decode bX11_skip 1 = .ok (.iconst 0, 1) := by decide +kernel
theorem dX11_skip_2 : decode bX11_skip 2 = .ok (.putfield 77, 3) := by decide +kernel
theorem dX11_skip_5 : decode bX11_skip 5 = .ok (.aload_n 0, 1) := by decide +kernel
theorem dX11_skip_6 : decode bX11_skip 6 = .ok (.invokevirtual 231, 3) := by decide +kernel
theorem dX11_skip_9 : decode bX11_skip 9 = .ok (.ifCond .ne 6, 3) := by decide +kernel
theorem dX11_skip_12 : decode bX11_skip 12 = .ok (.bipush (-2), 2) := by decide +kernel
theorem dX11_skip_14 : decode bX11_skip 14 = .ok (.ireturn, 1) := by decide +kernel
theorem dX11_skip_15 : decode bX11_skip 15 = .ok (.aload_n 0, 1) := by decide +kernel
theorem dX11_skip_16 : decode bX11_skip 16 = .ok (.invokevirtual 311, 3) := by decide +kernel
theorem dX11_skip_19 : decode bX11_skip 19 = .ok (.iconst (-1), 1) := by decide +kernel
theorem dX11_skip_20 : decode bX11_skip 20 = .ok (.istore_n 1, 1) := by decide +kernel
theorem dX11_skip_21 : decode bX11_skip 21 = .ok (.aload_n 0, 1) := by decide +kernel
theorem dX11_skip_22 : decode bX11_skip 22 = .ok (.invokevirtual 323, 3) := by decide +kernel
theorem dX11_skip_25 : decode bX11_skip 25 = .ok (.invokestatic 335, 3) := by decide +kernel
theorem dX11_skip_28 : decode bX11_skip 28 = .ok (.istore_n 2, 1) := by decide +kernel
theorem dX11_skip_29 : decode bX11_skip 29 = .ok (.iconst 0, 1) := by decide +kernel
theorem dX11_skip_30 : decode bX11_skip 30 = .ok (.istore_n 3, 1) := by decide +kernel
theorem dX11_skip_31 : decode bX11_skip 31 = .ok (.iload_n 3, 1) := by decide +kernel
theorem dX11_skip_32 : decode bX11_skip 32 = .ok (.aload_n 0, 1) := by decide +kernel
theorem dX11_skip_33 : decode bX11_skip 33 = .ok (.getfield 34, 3) := by decide +kernel
theorem dX11_skip_36 : decode bX11_skip 36 = .ok (.iconst 5, 1) := by decide +kernel
theorem dX11_skip_37 : decode bX11_skip 37 = .ok (.iaload, 1) := by decide +kernel
theorem dX11_skip_38 : decode bX11_skip 38 = .ok (.if_icmp .ge 46, 3) := by decide +kernel
theorem dX11_skip_41 : decode bX11_skip 41 = .ok (.aload_n 0, 1) := by decide +kernel
theorem dX11_skip_42 : decode bX11_skip 42 = .ok (.invokevirtual 296, 3) := by decide +kernel
theorem dX11_skip_45 : decode bX11_skip 45 = .ok (.aload_n 0, 1) := by decide +kernel
theorem dX11_skip_46 : decode bX11_skip 46 = .ok (.iload_n 3, 1) := by decide +kernel
theorem dX11_skip_47 : decode bX11_skip 47 = .ok (.invokevirtual 367, 3) := by decide +kernel
theorem dX11_skip_50 : decode bX11_skip 50 = .ok (.aload_n 0, 1) := by decide +kernel
theorem dX11_skip_51 : decode bX11_skip 51 = .ok (.invokevirtual 299, 3) := by decide +kernel
theorem dX11_skip_54 : decode bX11_skip 54 = .ok (.aload_n 0, 1) := by decide +kernel
theorem dX11_skip_55 : decode bX11_skip 55 = .ok (.invokevirtual 323, 3) := by decide +kernel
theorem dX11_skip_58 : decode bX11_skip 58 = .ok (.invokestatic 335, 3) := by decide +kernel
theorem dX11_skip_61 : decode bX11_skip 61 = .ok (.iload_n 2, 1) := by decide +kernel
theorem dX11_skip_62 : decode bX11_skip 62 = .ok (.if_icmp .gt 6, 3) := by decide +kernel
theorem dX11_skip_65 : decode bX11_skip 65 = .ok (.goto 13, 3) := by decide +kernel
theorem dX11_skip_68 : decode bX11_skip 68 = .ok (.iload_n 3, 1) := by decide +kernel
theorem dX11_skip_69 : decode bX11_skip 69 = .ok (.istore_n 1, 1) := by decide +kernel
theorem dX11_skip_70 : decode bX11_skip 70 = .ok (.aload_n 0, 1) := by decide +kernel
theorem dX11_skip_71 : decode bX11_skip 71 = .ok (.invokevirtual 323, 3) := by decide +kernel
theorem dX11_skip_74 : decode bX11_skip 74 = .ok (.invokestatic 335, 3) := by decide +kernel
theorem dX11_skip_77 : decode bX11_skip 77 = .ok (.istore_n 2, 1) := by decide +kernel
theorem dX11_skip_78 : decode bX11_skip 78 = .ok (.iinc 3 1, 3) := by decide +kernel
theorem dX11_skip_81 : decode bX11_skip 81 = .ok (.goto (-50), 3) := by decide +kernel
theorem dX11_skip_84 : decode bX11_skip 84 = .ok (.iload_n 1, 1) := by decide +kernel
theorem dX11_skip_85 : decode bX11_skip 85 = .ok (.ireturn, 1) := by decide +kernel
theorem dX11_whyNot_0 : decode bX11_whyNot 0 = .ok (.iload_n 1, 1) := by decide +kernel
theorem dX11_whyNot_1 : decode bX11_whyNot 1 = .ok (.invokestatic 86, 3) := by decide +kernel
theorem dX11_whyNot_4 : decode bX11_whyNot 4 = .ok (.ifCond .eq 14, 3) := by decide +kernel
theorem dX11_whyNot_7 : decode bX11_whyNot 7 = .ok (.aload_n 0, 1) := by decide +kernel
theorem dX11_whyNot_8 : decode bX11_whyNot 8 = .ok (.invokevirtual 231, 3) := by decide +kernel
theorem dX11_whyNot_11 : decode bX11_whyNot 11 = .ok (.ifCond .eq 7, 3) := by decide +kernel
theorem dX11_whyNot_14 : decode bX11_whyNot 14 = .ok (.iload_n 2, 1) := by decide +kernel
theorem dX11_whyNot_15 : decode bX11_whyNot 15 = .ok (.ifCond .ne 6, 3) := by decide +kernel
theorem dX11_whyNot_18 : decode bX11_whyNot 18 = .ok (.bipush (-2), 2) := by decide +kernel
theorem dX11_whyNot_20 : decode bX11_whyNot 20 = .ok (.ireturn, 1) := by decide +kernel
theorem dX11_whyNot_21 : decode bX11_whyNot 21 = .ok (.aload_n 0, 1) := by decide +kernel
theorem dX11_whyNot_22 : decode bX11_whyNot 22 = .ok (.getfield 7, 3) := by decide +kernel
theorem dX11_whyNot_25 : decode bX11_whyNot 25 = .ok (.iload_n 1, 1) := by decide +kernel
theorem dX11_whyNot_26 : decode bX11_whyNot 26 = .ok (.iaload, 1) := by decide +kernel
theorem dX11_whyNot_27 : decode bX11_whyNot 27 = .ok (.iconst (-1), 1) := by decide +kernel
theorem dX11_whyNot_28 : decode bX11_whyNot 28 = .ok (.if_icmp .ne 6, 3) := by decide +kernel
theorem dX11_whyNot_31 : decode bX11_whyNot 31 = .ok (.bipush (-6), 2) := by decide +kernel
theorem dX11_whyNot_33 : decode bX11_whyNot 33 = .ok (.ireturn, 1) := by decide +kernel
theorem dX11_whyNot_34 : decode bX11_whyNot 34 = .ok (.aload_n 0, 1) := by decide +kernel
theorem dX11_whyNot_35 : decode bX11_whyNot 35 = .ok (.getfield 13, 3) := by decide +kernel
theorem dX11_whyNot_38 : decode bX11_whyNot 38 = .ok (.iload_n 1, 1) := by decide +kernel
theorem dX11_whyNot_39 : decode bX11_whyNot 39 = .ok (.iaload, 1) := by decide +kernel
theorem dX11_whyNot_40 : decode bX11_whyNot 40 = .ok (.iconst 3, 1) := by decide +kernel
theorem dX11_whyNot_41 : decode bX11_whyNot 41 = .ok (.irem, 1) := by decide +kernel
theorem dX11_whyNot_42 : decode bX11_whyNot 42 = .ok (.ifCond .eq 6, 3) := by decide +kernel
theorem dX11_whyNot_45 : decode bX11_whyNot 45 = .ok (.bipush (-2), 2) := by decide +kernel
theorem dX11_whyNot_47 : decode bX11_whyNot 47 = .ok (.ireturn, 1) := by decide +kernel
theorem dX11_whyNot_48 : decode bX11_whyNot 48 = .ok (.iconst 0, 1) := by decide +kernel
theorem dX11_whyNot_49 : decode bX11_whyNot 49 = .ok (.istore_n 3, 1) := by decide +kernel
theorem dX11_whyNot_50 : decode bX11_whyNot 50 = .ok (.iload_n 3, 1) := by decide +kernel
theorem dX11_whyNot_51 : decode bX11_whyNot 51 = .ok (.aload_n 0, 1) := by decide +kernel
theorem dX11_whyNot_52 : decode bX11_whyNot 52 = .ok (.getfield 13, 3) := by decide +kernel
theorem dX11_whyNot_55 : decode bX11_whyNot 55 = .ok (.iload_n 1, 1) := by decide +kernel
theorem dX11_whyNot_56 : decode bX11_whyNot 56 = .ok (.iaload, 1) := by decide +kernel
theorem dX11_whyNot_57 : decode bX11_whyNot 57 = .ok (.if_icmp .ge 69, 3) := by decide +kernel
theorem dX11_whyNot_60 : decode bX11_whyNot 60 = .ok (.bipush 60, 2) := by decide +kernel
theorem dX11_whyNot_62 : decode bX11_whyNot 62 = .ok (.iload_n 1, 1) := by decide +kernel
theorem dX11_whyNot_63 : decode bX11_whyNot 63 = .ok (.imul, 1) := by decide +kernel
theorem dX11_whyNot_64 : decode bX11_whyNot 64 = .ok (.iload_n 3, 1) := by decide +kernel
theorem dX11_whyNot_65 : decode bX11_whyNot 65 = .ok (.iadd, 1) := by decide +kernel
theorem dX11_whyNot_66 : decode bX11_whyNot 66 = .ok (.istore 4, 2) := by decide +kernel
theorem dX11_whyNot_68 : decode bX11_whyNot 68 = .ok (.aload_n 0, 1) := by decide +kernel
theorem dX11_whyNot_69 : decode bX11_whyNot 69 = .ok (.aload_n 0, 1) := by decide +kernel
theorem dX11_whyNot_70 : decode bX11_whyNot 70 = .ok (.getfield 16, 3) := by decide +kernel
theorem dX11_whyNot_73 : decode bX11_whyNot 73 = .ok (.iload 4, 2) := by decide +kernel
theorem dX11_whyNot_75 : decode bX11_whyNot 75 = .ok (.laload, 1) := by decide +kernel
theorem dX11_whyNot_76 : decode bX11_whyNot 76 = .ok (.invokevirtual 237, 3) := by decide +kernel
theorem dX11_whyNot_79 : decode bX11_whyNot 79 = .ok (.ifCond .eq 38, 3) := by decide +kernel
theorem dX11_whyNot_82 : decode bX11_whyNot 82 = .ok (.aload_n 0, 1) := by decide +kernel
theorem dX11_whyNot_83 : decode bX11_whyNot 83 = .ok (.aload_n 0, 1) := by decide +kernel
theorem dX11_whyNot_84 : decode bX11_whyNot 84 = .ok (.getfield 16, 3) := by decide +kernel
theorem dX11_whyNot_87 : decode bX11_whyNot 87 = .ok (.iload 4, 2) := by decide +kernel
theorem dX11_whyNot_89 : decode bX11_whyNot 89 = .ok (.iconst 1, 1) := by decide +kernel
theorem dX11_whyNot_90 : decode bX11_whyNot 90 = .ok (.iadd, 1) := by decide +kernel
theorem dX11_whyNot_91 : decode bX11_whyNot 91 = .ok (.laload, 1) := by decide +kernel
theorem dX11_whyNot_92 : decode bX11_whyNot 92 = .ok (.invokevirtual 240, 3) := by decide +kernel
theorem dX11_whyNot_95 : decode bX11_whyNot 95 = .ok (.ifCond .eq 22, 3) := by decide +kernel
theorem dX11_whyNot_98 : decode bX11_whyNot 98 = .ok (.aload_n 0, 1) := by decide +kernel
theorem dX11_whyNot_99 : decode bX11_whyNot 99 = .ok (.getfield 16, 3) := by decide +kernel
theorem dX11_whyNot_102 : decode bX11_whyNot 102 = .ok (.iload 4, 2) := by decide +kernel
theorem dX11_whyNot_104 : decode bX11_whyNot 104 = .ok (.iconst 2, 1) := by decide +kernel
theorem dX11_whyNot_105 : decode bX11_whyNot 105 = .ok (.iadd, 1) := by decide +kernel
theorem dX11_whyNot_106 : decode bX11_whyNot 106 = .ok (.laload, 1) := by decide +kernel
theorem dX11_whyNot_107 : decode bX11_whyNot 107 = .ok (.lconst 0, 1) := by decide +kernel
theorem dX11_whyNot_108 : decode bX11_whyNot 108 = .ok (.ldc2_w 370, 3) := by decide +kernel
theorem dX11_whyNot_111 : decode bX11_whyNot 111 = .ok (.invokestatic 82, 3) := by decide +kernel
theorem dX11_whyNot_114 : decode bX11_whyNot 114 = .ok (.ifCond .ne 6, 3) := by decide +kernel
theorem dX11_whyNot_117 : decode bX11_whyNot 117 = .ok (.bipush (-2), 2) := by decide +kernel
theorem dX11_whyNot_119 : decode bX11_whyNot 119 = .ok (.ireturn, 1) := by decide +kernel
theorem dX11_whyNot_120 : decode bX11_whyNot 120 = .ok (.iinc 3 3, 3) := by decide +kernel
theorem dX11_whyNot_123 : decode bX11_whyNot 123 = .ok (.goto (-73), 3) := by decide +kernel
theorem dX11_whyNot_126 : decode bX11_whyNot 126 = .ok (.iconst 0, 1) := by decide +kernel
theorem dX11_whyNot_127 : decode bX11_whyNot 127 = .ok (.ireturn, 1) := by decide +kernel
theorem dX11_isSo_0 : decode bX11_isSo 0 = .ok (.iconst 0, 1) := by decide +kernel
theorem dX11_isSo_1 : decode bX11_isSo 1 = .ok (.istore_n 2, 1) := by decide +kernel
theorem dX11_isSo_2 : decode bX11_isSo 2 = .ok (.iload_n 2, 1) := by decide +kernel
theorem dX11_isSo_3 : decode bX11_isSo 3 = .ok (.aload_n 0, 1) := by decide +kernel
theorem dX11_isSo_4 : decode bX11_isSo 4 = .ok (.getfield 13, 3) := by decide +kernel
theorem dX11_isSo_7 : decode bX11_isSo 7 = .ok (.iload_n 1, 1) := by decide +kernel
theorem dX11_isSo_8 : decode bX11_isSo 8 = .ok (.iaload, 1) := by decide +kernel
theorem dX11_isSo_9 : decode bX11_isSo 9 = .ok (.if_icmp .ge 51, 3) := by decide +kernel
theorem dX11_isSo_12 : decode bX11_isSo 12 = .ok (.bipush 60, 2) := by decide +kernel
theorem dX11_isSo_14 : decode bX11_isSo 14 = .ok (.iload_n 1, 1) := by decide +kernel
theorem dX11_isSo_15 : decode bX11_isSo 15 = .ok (.imul, 1) := by decide +kernel
theorem dX11_isSo_16 : decode bX11_isSo 16 = .ok (.iload_n 2, 1) := by decide +kernel
theorem dX11_isSo_17 : decode bX11_isSo 17 = .ok (.iadd, 1) := by decide +kernel
theorem dX11_isSo_18 : decode bX11_isSo 18 = .ok (.istore_n 3, 1) := by decide +kernel
theorem dX11_isSo_19 : decode bX11_isSo 19 = .ok (.aload_n 0, 1) := by decide +kernel
theorem dX11_isSo_20 : decode bX11_isSo 20 = .ok (.aload_n 0, 1) := by decide +kernel
theorem dX11_isSo_21 : decode bX11_isSo 21 = .ok (.getfield 16, 3) := by decide +kernel
theorem dX11_isSo_24 : decode bX11_isSo 24 = .ok (.iload_n 3, 1) := by decide +kernel
theorem dX11_isSo_25 : decode bX11_isSo 25 = .ok (.laload, 1) := by decide +kernel
theorem dX11_isSo_26 : decode bX11_isSo 26 = .ok (.l2i, 1) := by decide +kernel
theorem dX11_isSo_27 : decode bX11_isSo 27 = .ok (.aload_n 0, 1) := by decide +kernel
theorem dX11_isSo_28 : decode bX11_isSo 28 = .ok (.getfield 16, 3) := by decide +kernel
theorem dX11_isSo_31 : decode bX11_isSo 31 = .ok (.iload_n 3, 1) := by decide +kernel
theorem dX11_isSo_32 : decode bX11_isSo 32 = .ok (.iconst 1, 1) := by decide +kernel
theorem dX11_isSo_33 : decode bX11_isSo 33 = .ok (.iadd, 1) := by decide +kernel
theorem dX11_isSo_34 : decode bX11_isSo 34 = .ok (.laload, 1) := by decide +kernel
theorem dX11_isSo_35 : decode bX11_isSo 35 = .ok (.l2i, 1) := by decide +kernel
theorem dX11_isSo_36 : decode bX11_isSo 36 = .ok (.invokevirtual 268, 3) := by decide +kernel
theorem dX11_isSo_39 : decode bX11_isSo 39 = .ok (.i2l, 1) := by decide +kernel
theorem dX11_isSo_40 : decode bX11_isSo 40 = .ok (.aload_n 0, 1) := by decide +kernel
theorem dX11_isSo_41 : decode bX11_isSo 41 = .ok (.getfield 16, 3) := by decide +kernel
theorem dX11_isSo_44 : decode bX11_isSo 44 = .ok (.iload_n 3, 1) := by decide +kernel
theorem dX11_isSo_45 : decode bX11_isSo 45 = .ok (.iconst 2, 1) := by decide +kernel
theorem dX11_isSo_46 : decode bX11_isSo 46 = .ok (.iadd, 1) := by decide +kernel
theorem dX11_isSo_47 : decode bX11_isSo 47 = .ok (.laload, 1) := by decide +kernel
theorem dX11_isSo_48 : decode bX11_isSo 48 = .ok (.lcmp, 1) := by decide +kernel
theorem dX11_isSo_49 : decode bX11_isSo 49 = .ok (.ifCond .eq 5, 3) := by decide +kernel
theorem dX11_isSo_52 : decode bX11_isSo 52 = .ok (.iconst 0, 1) := by decide +kernel
theorem dX11_isSo_53 : decode bX11_isSo 53 = .ok (.ireturn, 1) := by decide +kernel
theorem dX11_isSo_54 : decode bX11_isSo 54 = .ok (.iinc 2 3, 3) := by decide +kernel
theorem dX11_isSo_57 : decode bX11_isSo 57 = .ok (.goto (-55), 3) := by decide +kernel
theorem dX11_isSo_60 : decode bX11_isSo 60 = .ok (.iconst 1, 1) := by decide +kernel
theorem dX11_isSo_61 : decode bX11_isSo 61 = .ok (.ireturn, 1) := by decide +kernel
theorem dX11_laysSeen_0 : decode bX11_laysSeen 0 = .ok (.aload_n 0, 1) := by decide +kernel
theorem dX11_laysSeen_1 : decode bX11_laysSeen 1 = .ok (.iconst 0, 1) := by decide +kernel
theorem dX11_laysSeen_2 : decode bX11_laysSeen 2 = .ok (.putfield 372, 3) := by decide +kernel
theorem dX11_laysSeen_5 : decode bX11_laysSeen 5 = .ok (.aload_n 0, 1) := by decide +kernel
theorem dX11_laysSeen_6 : decode bX11_laysSeen 6 = .ok (.iconst (-1), 1) := by decide +kernel
theorem dX11_laysSeen_7 : decode bX11_laysSeen 7 = .ok (.putfield 375, 3) := by decide +kernel
theorem dX11_laysSeen_10 : decode bX11_laysSeen 10 = .ok (.aload_n 0, 1) := by decide +kernel
theorem dX11_laysSeen_11 : decode bX11_laysSeen 11 = .ok (.iconst (-1), 1) := by decide +kernel
theorem dX11_laysSeen_12 : decode bX11_laysSeen 12 = .ok (.putfield 378, 3) := by decide +kernel
theorem dX11_laysSeen_15 : decode bX11_laysSeen 15 = .ok (.iconst 0, 1) := by decide +kernel
theorem dX11_laysSeen_16 : decode bX11_laysSeen 16 = .ok (.istore_n 3, 1) := by decide +kernel
theorem dX11_laysSeen_17 : decode bX11_laysSeen 17 = .ok (.iload_n 3, 1) := by decide +kernel
theorem dX11_laysSeen_18 : decode bX11_laysSeen 18 = .ok (.sipush 600, 3) := by decide +kernel
theorem dX11_laysSeen_21 : decode bX11_laysSeen 21 = .ok (.if_icmp .gt 70, 3) := by decide +kernel
theorem dX11_laysSeen_24 : decode bX11_laysSeen 24 = .ok (.aload_n 0, 1) := by decide +kernel
theorem dX11_laysSeen_25 : decode bX11_laysSeen 25 = .ok (.invokevirtual 296, 3) := by decide +kernel
theorem dX11_laysSeen_28 : decode bX11_laysSeen 28 = .ok (.aload_n 0, 1) := by decide +kernel
theorem dX11_laysSeen_29 : decode bX11_laysSeen 29 = .ok (.getfield 50, 3) := by decide +kernel
theorem dX11_laysSeen_32 : decode bX11_laysSeen 32 = .ok (.iload_n 2, 1) := by decide +kernel
theorem dX11_laysSeen_33 : decode bX11_laysSeen 33 = .ok (.iload_n 3, 1) := by decide +kernel
theorem dX11_laysSeen_34 : decode bX11_laysSeen 34 = .ok (.iastore, 1) := by decide +kernel
theorem dX11_laysSeen_35 : decode bX11_laysSeen 35 = .ok (.aload_n 0, 1) := by decide +kernel
theorem dX11_laysSeen_36 : decode bX11_laysSeen 36 = .ok (.invokevirtual 299, 3) := by decide +kernel
theorem dX11_laysSeen_39 : decode bX11_laysSeen 39 = .ok (.aload_n 0, 1) := by decide +kernel
theorem dX11_laysSeen_40 : decode bX11_laysSeen 40 = .ok (.iload_n 1, 1) := by decide +kernel
theorem dX11_laysSeen_41 : decode bX11_laysSeen 41 = .ok (.invokevirtual 381, 3) := by decide +kernel
theorem dX11_laysSeen_44 : decode bX11_laysSeen 44 = .ok (.ifCond .ne 6, 3) := by decide +kernel
theorem dX11_laysSeen_47 : decode bX11_laysSeen 47 = .ok (.goto 38, 3) := by decide +kernel
theorem dX11_laysSeen_50 : decode bX11_laysSeen 50 = .ok (.aload_n 0, 1) := by decide +kernel
theorem dX11_laysSeen_51 : decode bX11_laysSeen 51 = .ok (.dup, 1) := by decide +kernel
theorem dX11_laysSeen_52 : decode bX11_laysSeen 52 = .ok (.getfield 372, 3) := by decide +kernel
theorem dX11_laysSeen_55 : decode bX11_laysSeen 55 = .ok (.iconst 1, 1) := by decide +kernel
theorem dX11_laysSeen_56 : decode bX11_laysSeen 56 = .ok (.iadd, 1) := by decide +kernel
theorem dX11_laysSeen_57 : decode bX11_laysSeen 57 = .ok (.putfield 372, 3) := by decide +kernel
theorem dX11_laysSeen_60 : decode bX11_laysSeen 60 = .ok (.aload_n 0, 1) := by decide +kernel
theorem dX11_laysSeen_61 : decode bX11_laysSeen 61 = .ok (.aload_n 0, 1) := by decide +kernel
theorem dX11_laysSeen_62 : decode bX11_laysSeen 62 = .ok (.getfield 375, 3) := by decide +kernel
theorem dX11_laysSeen_65 : decode bX11_laysSeen 65 = .ok (.iconst (-1), 1) := by decide +kernel
theorem dX11_laysSeen_66 : decode bX11_laysSeen 66 = .ok (.if_icmp .ne 7, 3) := by decide +kernel
theorem dX11_laysSeen_69 : decode bX11_laysSeen 69 = .ok (.iload_n 3, 1) := by decide +kernel
theorem dX11_laysSeen_70 : decode bX11_laysSeen 70 = .ok (.goto 7, 3) := by decide +kernel
theorem dX11_laysSeen_73 : decode bX11_laysSeen 73 = .ok (.aload_n 0, 1) := by decide +kernel
theorem dX11_laysSeen_74 : decode bX11_laysSeen 74 = .ok (.getfield 375, 3) := by decide +kernel
theorem dX11_laysSeen_77 : decode bX11_laysSeen 77 = .ok (.putfield 375, 3) := by decide +kernel
theorem dX11_laysSeen_80 : decode bX11_laysSeen 80 = .ok (.aload_n 0, 1) := by decide +kernel
theorem dX11_laysSeen_81 : decode bX11_laysSeen 81 = .ok (.iload_n 3, 1) := by decide +kernel
theorem dX11_laysSeen_82 : decode bX11_laysSeen 82 = .ok (.putfield 378, 3) := by decide +kernel
theorem dX11_laysSeen_85 : decode bX11_laysSeen 85 = .ok (.iinc 3 1, 3) := by decide +kernel
theorem dX11_laysSeen_88 : decode bX11_laysSeen 88 = .ok (.goto (-71), 3) := by decide +kernel
theorem dX11_laysSeen_91 : decode bX11_laysSeen 91 = .ok (.return_, 1) := by decide +kernel
theorem dX11_airs_0 : decode bX11_airs 0 = .ok (.aload_n 0, 1) := by decide +kernel
theorem dX11_airs_1 : decode bX11_airs 1 = .ok (.iconst 0, 1) := by decide +kernel
theorem dX11_airs_2 : decode bX11_airs 2 = .ok (.putfield 77, 3) := by decide +kernel
theorem dX11_airs_5 : decode bX11_airs 5 = .ok (.aload_n 0, 1) := by decide +kernel
theorem dX11_airs_6 : decode bX11_airs 6 = .ok (.iload_n 1, 1) := by decide +kernel
theorem dX11_airs_7 : decode bX11_airs 7 = .ok (.aload_n 0, 1) := by decide +kernel
theorem dX11_airs_8 : decode bX11_airs 8 = .ok (.iload_n 2, 1) := by decide +kernel
theorem dX11_airs_9 : decode bX11_airs 9 = .ok (.invokevirtual 302, 3) := by decide +kernel
theorem dX11_airs_12 : decode bX11_airs 12 = .ok (.invokevirtual 384, 3) := by decide +kernel
theorem dX11_airs_15 : decode bX11_airs 15 = .ok (.istore_n 3, 1) := by decide +kernel
theorem dX11_airs_16 : decode bX11_airs 16 = .ok (.iload_n 3, 1) := by decide +kernel
theorem dX11_airs_17 : decode bX11_airs 17 = .ok (.ifCond .eq 5, 3) := by decide +kernel
theorem dX11_airs_20 : decode bX11_airs 20 = .ok (.iload_n 3, 1) := by decide +kernel
theorem dX11_airs_21 : decode bX11_airs 21 = .ok (.ireturn, 1) := by decide +kernel
theorem dX11_airs_22 : decode bX11_airs 22 = .ok (.aload_n 0, 1) := by decide +kernel
theorem dX11_airs_23 : decode bX11_airs 23 = .ok (.iload_n 1, 1) := by decide +kernel
theorem dX11_airs_24 : decode bX11_airs 24 = .ok (.iload_n 2, 1) := by decide +kernel
theorem dX11_airs_25 : decode bX11_airs 25 = .ok (.invokevirtual 388, 3) := by decide +kernel
theorem dX11_airs_28 : decode bX11_airs 28 = .ok (.aload_n 0, 1) := by decide +kernel
theorem dX11_airs_29 : decode bX11_airs 29 = .ok (.getfield 372, 3) := by decide +kernel
theorem dX11_airs_32 : decode bX11_airs 32 = .ok (.ireturn, 1) := by decide +kernel
theorem dX11_low_0 : decode bX11_low 0 = .ok (.aload_n 0, 1) := by decide +kernel
theorem dX11_low_1 : decode bX11_low 1 = .ok (.iconst 0, 1) := by decide +kernel
theorem dX11_low_2 : decode bX11_low 2 = .ok (.putfield 77, 3) := by decide +kernel
theorem dX11_low_5 : decode bX11_low 5 = .ok (.aload_n 0, 1) := by decide +kernel
theorem dX11_low_6 : decode bX11_low 6 = .ok (.iload_n 1, 1) := by decide +kernel
theorem dX11_low_7 : decode bX11_low 7 = .ok (.aload_n 0, 1) := by decide +kernel
theorem dX11_low_8 : decode bX11_low 8 = .ok (.iload_n 2, 1) := by decide +kernel
theorem dX11_low_9 : decode bX11_low 9 = .ok (.invokevirtual 302, 3) := by decide +kernel
theorem dX11_low_12 : decode bX11_low 12 = .ok (.invokevirtual 384, 3) := by decide +kernel
theorem dX11_low_15 : decode bX11_low 15 = .ok (.istore_n 3, 1) := by decide +kernel
theorem dX11_low_16 : decode bX11_low 16 = .ok (.iload_n 3, 1) := by decide +kernel
theorem dX11_low_17 : decode bX11_low 17 = .ok (.ifCond .eq 5, 3) := by decide +kernel
theorem dX11_low_20 : decode bX11_low 20 = .ok (.iload_n 3, 1) := by decide +kernel
theorem dX11_low_21 : decode bX11_low 21 = .ok (.ireturn, 1) := by decide +kernel
theorem dX11_low_22 : decode bX11_low 22 = .ok (.aload_n 0, 1) := by decide +kernel
theorem dX11_low_23 : decode bX11_low 23 = .ok (.iload_n 1, 1) := by decide +kernel
theorem dX11_low_24 : decode bX11_low 24 = .ok (.iload_n 2, 1) := by decide +kernel
theorem dX11_low_25 : decode bX11_low 25 = .ok (.invokevirtual 388, 3) := by decide +kernel
theorem dX11_low_28 : decode bX11_low 28 = .ok (.aload_n 0, 1) := by decide +kernel
theorem dX11_low_29 : decode bX11_low 29 = .ok (.getfield 375, 3) := by decide +kernel
theorem dX11_low_32 : decode bX11_low 32 = .ok (.ireturn, 1) := by decide +kernel
theorem dX11_high_0 : decode bX11_high 0 = .ok (.aload_n 0, 1) := by decide +kernel
theorem dX11_high_1 : decode bX11_high 1 = .ok (.iconst 0, 1) := by decide +kernel
theorem dX11_high_2 : decode bX11_high 2 = .ok (.putfield 77, 3) := by decide +kernel
theorem dX11_high_5 : decode bX11_high 5 = .ok (.aload_n 0, 1) := by decide +kernel
theorem dX11_high_6 : decode bX11_high 6 = .ok (.iload_n 1, 1) := by decide +kernel
theorem dX11_high_7 : decode bX11_high 7 = .ok (.aload_n 0, 1) := by decide +kernel
theorem dX11_high_8 : decode bX11_high 8 = .ok (.iload_n 2, 1) := by decide +kernel
theorem dX11_high_9 : decode bX11_high 9 = .ok (.invokevirtual 302, 3) := by decide +kernel
theorem dX11_high_12 : decode bX11_high 12 = .ok (.invokevirtual 384, 3) := by decide +kernel
theorem dX11_high_15 : decode bX11_high 15 = .ok (.istore_n 3, 1) := by decide +kernel
theorem dX11_high_16 : decode bX11_high 16 = .ok (.iload_n 3, 1) := by decide +kernel
theorem dX11_high_17 : decode bX11_high 17 = .ok (.ifCond .eq 5, 3) := by decide +kernel
theorem dX11_high_20 : decode bX11_high 20 = .ok (.iload_n 3, 1) := by decide +kernel
theorem dX11_high_21 : decode bX11_high 21 = .ok (.ireturn, 1) := by decide +kernel
theorem dX11_high_22 : decode bX11_high 22 = .ok (.aload_n 0, 1) := by decide +kernel
theorem dX11_high_23 : decode bX11_high 23 = .ok (.iload_n 1, 1) := by decide +kernel
theorem dX11_high_24 : decode bX11_high 24 = .ok (.iload_n 2, 1) := by decide +kernel
theorem dX11_high_25 : decode bX11_high 25 = .ok (.invokevirtual 388, 3) := by decide +kernel
theorem dX11_high_28 : decode bX11_high 28 = .ok (.aload_n 0, 1) := by decide +kernel
theorem dX11_high_29 : decode bX11_high 29 = .ok (.getfield 378, 3) := by decide +kernel
theorem dX11_high_32 : decode bX11_high 32 = .ok (.ireturn, 1) := by decide +kernel
theorem dX11_thicks_0 : decode bX11_thicks 0 = .ok (.aload_n 0, 1) := by decide +kernel
theorem dX11_thicks_1 : decode bX11_thicks 1 = .ok (.iconst 0, 1) := by decide +kernel
theorem dX11_thicks_2 : decode bX11_thicks 2 = .ok (.putfield 77, 3) := by decide +kernel
theorem dX11_thicks_5 : decode bX11_thicks 5 = .ok (.aload_n 0, 1) := by decide +kernel
theorem dX11_thicks_6 : decode bX11_thicks 6 = .ok (.iload_n 1, 1) := by decide +kernel
theorem dX11_thicks_7 : decode bX11_thicks 7 = .ok (.aload_n 0, 1) := by decide +kernel
theorem dX11_thicks_8 : decode bX11_thicks 8 = .ok (.iload_n 2, 1) := by decide +kernel
theorem dX11_thicks_9 : decode bX11_thicks 9 = .ok (.i2l, 1) := by decide +kernel
theorem dX11_thicks_10 : decode bX11_thicks 10 = .ok (.invokevirtual 237, 3) := by decide +kernel
theorem dX11_thicks_13 : decode bX11_thicks 13 = .ok (.invokevirtual 384, 3) := by decide +kernel
theorem dX11_thicks_16 : decode bX11_thicks 16 = .ok (.istore_n 3, 1) := by decide +kernel
theorem dX11_thicks_17 : decode bX11_thicks 17 = .ok (.iload_n 3, 1) := by decide +kernel
theorem dX11_thicks_18 : decode bX11_thicks 18 = .ok (.ifCond .eq 5, 3) := by decide +kernel
theorem dX11_thicks_21 : decode bX11_thicks 21 = .ok (.iload_n 3, 1) := by decide +kernel
theorem dX11_thicks_22 : decode bX11_thicks 22 = .ok (.ireturn, 1) := by decide +kernel
theorem dX11_thicks_23 : decode bX11_thicks 23 = .ok (.iconst 0, 1) := by decide +kernel
theorem dX11_thicks_24 : decode bX11_thicks 24 = .ok (.istore 4, 2) := by decide +kernel
theorem dX11_thicks_26 : decode bX11_thicks 26 = .ok (.iconst 1, 1) := by decide +kernel
theorem dX11_thicks_27 : decode bX11_thicks 27 = .ok (.istore 5, 2) := by decide +kernel
theorem dX11_thicks_29 : decode bX11_thicks 29 = .ok (.iload 5, 2) := by decide +kernel
theorem dX11_thicks_31 : decode bX11_thicks 31 = .ok (.bipush 9, 2) := by decide +kernel
theorem dX11_thicks_33 : decode bX11_thicks 33 = .ok (.if_icmp .gt 46, 3) := by decide +kernel
theorem dX11_thicks_36 : decode bX11_thicks 36 = .ok (.aload_n 0, 1) := by decide +kernel
theorem dX11_thicks_37 : decode bX11_thicks 37 = .ok (.invokevirtual 296, 3) := by decide +kernel
theorem dX11_thicks_40 : decode bX11_thicks 40 = .ok (.aload_n 0, 1) := by decide +kernel
theorem dX11_thicks_41 : decode bX11_thicks 41 = .ok (.getfield 53, 3) := by decide +kernel
theorem dX11_thicks_44 : decode bX11_thicks 44 = .ok (.iload_n 2, 1) := by decide +kernel
theorem dX11_thicks_45 : decode bX11_thicks 45 = .ok (.iload 5, 2) := by decide +kernel
theorem dX11_thicks_47 : decode bX11_thicks 47 = .ok (.iastore, 1) := by decide +kernel
theorem dX11_thicks_48 : decode bX11_thicks 48 = .ok (.aload_n 0, 1) := by decide +kernel
theorem dX11_thicks_49 : decode bX11_thicks 49 = .ok (.invokevirtual 299, 3) := by decide +kernel
theorem dX11_thicks_52 : decode bX11_thicks 52 = .ok (.iload 4, 2) := by decide +kernel
theorem dX11_thicks_54 : decode bX11_thicks 54 = .ok (.aload_n 0, 1) := by decide +kernel
theorem dX11_thicks_55 : decode bX11_thicks 55 = .ok (.iload_n 1, 1) := by decide +kernel
theorem dX11_thicks_56 : decode bX11_thicks 56 = .ok (.invokevirtual 381, 3) := by decide +kernel
theorem dX11_thicks_59 : decode bX11_thicks 59 = .ok (.ifCond .eq 10, 3) := by decide +kernel
theorem dX11_thicks_62 : decode bX11_thicks 62 = .ok (.iconst 1, 1) := by decide +kernel
theorem dX11_thicks_63 : decode bX11_thicks 63 = .ok (.iload 5, 2) := by decide +kernel
theorem dX11_thicks_65 : decode bX11_thicks 65 = .ok (.ishl, 1) := by decide +kernel
theorem dX11_thicks_66 : decode bX11_thicks 66 = .ok (.goto 4, 3) := by decide +kernel
theorem dX11_thicks_69 : decode bX11_thicks 69 = .ok (.iconst 0, 1) := by decide +kernel
theorem dX11_thicks_70 : decode bX11_thicks 70 = .ok (.ior, 1) := by decide +kernel
theorem dX11_thicks_71 : decode bX11_thicks 71 = .ok (.istore 4, 2) := by decide +kernel
theorem dX11_thicks_73 : decode bX11_thicks 73 = .ok (.iinc 5 1, 3) := by decide +kernel
theorem dX11_thicks_76 : decode bX11_thicks 76 = .ok (.goto (-47), 3) := by decide +kernel
theorem dX11_thicks_79 : decode bX11_thicks 79 = .ok (.iload 4, 2) := by decide +kernel
theorem dX11_thicks_81 : decode bX11_thicks 81 = .ok (.ireturn, 1) := by decide +kernel
theorem dX11_byLaw_0 : decode bX11_byLaw 0 = .ok (.aload_n 0, 1) := by decide +kernel
theorem dX11_byLaw_1 : decode bX11_byLaw 1 = .ok (.invokevirtual 296, 3) := by decide +kernel
theorem dX11_byLaw_4 : decode bX11_byLaw 4 = .ok (.aload_n 0, 1) := by decide +kernel
theorem dX11_byLaw_5 : decode bX11_byLaw 5 = .ok (.iload_n 1, 1) := by decide +kernel
theorem dX11_byLaw_6 : decode bX11_byLaw 6 = .ok (.putfield 243, 3) := by decide +kernel
theorem dX11_byLaw_9 : decode bX11_byLaw 9 = .ok (.aload_n 0, 1) := by decide +kernel
theorem dX11_byLaw_10 : decode bX11_byLaw 10 = .ok (.invokevirtual 299, 3) := by decide +kernel
theorem dX11_byLaw_13 : decode bX11_byLaw 13 = .ok (.aload_n 0, 1) := by decide +kernel
theorem dX11_byLaw_14 : decode bX11_byLaw 14 = .ok (.invokevirtual 323, 3) := by decide +kernel
theorem dX11_byLaw_17 : decode bX11_byLaw 17 = .ok (.ireturn, 1) := by decide +kernel
theorem dX11_laws_0 : decode bX11_laws 0 = .ok (.aload_n 0, 1) := by decide +kernel
theorem dX11_laws_1 : decode bX11_laws 1 = .ok (.iconst 0, 1) := by decide +kernel
theorem dX11_laws_2 : decode bX11_laws 2 = .ok (.putfield 77, 3) := by decide +kernel
theorem dX11_laws_5 : decode bX11_laws 5 = .ok (.aload_n 0, 1) := by decide +kernel
theorem dX11_laws_6 : decode bX11_laws 6 = .ok (.iload_n 1, 1) := by decide +kernel
theorem dX11_laws_7 : decode bX11_laws 7 = .ok (.iconst 1, 1) := by decide +kernel
theorem dX11_laws_8 : decode bX11_laws 8 = .ok (.invokevirtual 384, 3) := by decide +kernel
theorem dX11_laws_11 : decode bX11_laws 11 = .ok (.istore_n 2, 1) := by decide +kernel
theorem dX11_laws_12 : decode bX11_laws 12 = .ok (.iload_n 2, 1) := by decide +kernel
theorem dX11_laws_13 : decode bX11_laws 13 = .ok (.ifCond .eq 5, 3) := by decide +kernel
theorem dX11_laws_16 : decode bX11_laws 16 = .ok (.iload_n 2, 1) := by decide +kernel
theorem dX11_laws_17 : decode bX11_laws 17 = .ok (.ireturn, 1) := by decide +kernel
theorem dX11_laws_18 : decode bX11_laws 18 = .ok (.iconst 0, 1) := by decide +kernel
theorem dX11_laws_19 : decode bX11_laws 19 = .ok (.istore_n 3, 1) := by decide +kernel
theorem dX11_laws_20 : decode bX11_laws 20 = .ok (.iconst 0, 1) := by decide +kernel
theorem dX11_laws_21 : decode bX11_laws 21 = .ok (.istore 4, 2) := by decide +kernel
theorem dX11_laws_23 : decode bX11_laws 23 = .ok (.iload 4, 2) := by decide +kernel
theorem dX11_laws_25 : decode bX11_laws 25 = .ok (.iconst 4, 1) := by decide +kernel
theorem dX11_laws_26 : decode bX11_laws 26 = .ok (.if_icmp .ge 35, 3) := by decide +kernel
theorem dX11_laws_29 : decode bX11_laws 29 = .ok (.aload_n 0, 1) := by decide +kernel
theorem dX11_laws_30 : decode bX11_laws 30 = .ok (.iload 4, 2) := by decide +kernel
theorem dX11_laws_32 : decode bX11_laws 32 = .ok (.invokevirtual 391, 3) := by decide +kernel
theorem dX11_laws_35 : decode bX11_laws 35 = .ok (.pop, 1) := by decide +kernel
theorem dX11_laws_36 : decode bX11_laws 36 = .ok (.iload_n 3, 1) := by decide +kernel
theorem dX11_laws_37 : decode bX11_laws 37 = .ok (.aload_n 0, 1) := by decide +kernel
theorem dX11_laws_38 : decode bX11_laws 38 = .ok (.iload_n 1, 1) := by decide +kernel
theorem dX11_laws_39 : decode bX11_laws 39 = .ok (.invokevirtual 381, 3) := by decide +kernel
theorem dX11_laws_42 : decode bX11_laws 42 = .ok (.ifCond .eq 10, 3) := by decide +kernel
theorem dX11_laws_45 : decode bX11_laws 45 = .ok (.iconst 1, 1) := by decide +kernel
theorem dX11_laws_46 : decode bX11_laws 46 = .ok (.iload 4, 2) := by decide +kernel
theorem dX11_laws_48 : decode bX11_laws 48 = .ok (.ishl, 1) := by decide +kernel
theorem dX11_laws_49 : decode bX11_laws 49 = .ok (.goto 4, 3) := by decide +kernel
theorem dX11_laws_52 : decode bX11_laws 52 = .ok (.iconst 0, 1) := by decide +kernel
theorem dX11_laws_53 : decode bX11_laws 53 = .ok (.ior, 1) := by decide +kernel
theorem dX11_laws_54 : decode bX11_laws 54 = .ok (.istore_n 3, 1) := by decide +kernel
theorem dX11_laws_55 : decode bX11_laws 55 = .ok (.iinc 4 1, 3) := by decide +kernel
theorem dX11_laws_58 : decode bX11_laws 58 = .ok (.goto (-35), 3) := by decide +kernel
theorem dX11_laws_61 : decode bX11_laws 61 = .ok (.iload_n 3, 1) := by decide +kernel
theorem dX11_laws_62 : decode bX11_laws 62 = .ok (.ireturn, 1) := by decide +kernel
theorem dX11_by_0 : decode bX11_by 0 = .ok (.aload_n 0, 1) := by decide +kernel
theorem dX11_by_1 : decode bX11_by 1 = .ok (.iconst 0, 1) := by decide +kernel
theorem dX11_by_2 : decode bX11_by 2 = .ok (.putfield 77, 3) := by decide +kernel
theorem dX11_by_5 : decode bX11_by 5 = .ok (.aload_n 0, 1) := by decide +kernel
theorem dX11_by_6 : decode bX11_by 6 = .ok (.invokevirtual 231, 3) := by decide +kernel
theorem dX11_by_9 : decode bX11_by 9 = .ok (.ifCond .eq 23, 3) := by decide +kernel
theorem dX11_by_12 : decode bX11_by 12 = .ok (.iload_n 1, 1) := by decide +kernel
theorem dX11_by_13 : decode bX11_by 13 = .ok (.i2l, 1) := by decide +kernel
theorem dX11_by_14 : decode bX11_by 14 = .ok (.lconst 0, 1) := by decide +kernel
theorem dX11_by_15 : decode bX11_by 15 = .ok (.ldc2_w 80, 3) := by decide +kernel
theorem dX11_by_18 : decode bX11_by 18 = .ok (.invokestatic 82, 3) := by decide +kernel
theorem dX11_by_21 : decode bX11_by 21 = .ok (.ifCond .eq 11, 3) := by decide +kernel
theorem dX11_by_24 : decode bX11_by 24 = .ok (.aload_n 0, 1) := by decide +kernel
theorem dX11_by_25 : decode bX11_by 25 = .ok (.iload_n 1, 1) := by decide +kernel
theorem dX11_by_26 : decode bX11_by 26 = .ok (.invokevirtual 391, 3) := by decide +kernel
theorem dX11_by_29 : decode bX11_by 29 = .ok (.goto 5, 3) := by decide +kernel
theorem dX11_by_32 : decode bX11_by 32 = .ok (.bipush (-2), 2) := by decide +kernel
theorem dX11_by_34 : decode bX11_by 34 = .ok (.ireturn, 1) := by decide +kernel
theorem dX11_law_0 : decode bX11_law 0 = .ok (.aload_n 0, 1) := by decide +kernel
theorem dX11_law_1 : decode bX11_law 1 = .ok (.iconst 0, 1) := by decide +kernel
theorem dX11_law_2 : decode bX11_law 2 = .ok (.putfield 77, 3) := by decide +kernel
theorem dX11_law_5 : decode bX11_law 5 = .ok (.aload_n 0, 1) := by decide +kernel
theorem dX11_law_6 : decode bX11_law 6 = .ok (.invokevirtual 231, 3) := by decide +kernel
theorem dX11_law_9 : decode bX11_law 9 = .ok (.ifCond .ne 6, 3) := by decide +kernel
theorem dX11_law_12 : decode bX11_law 12 = .ok (.bipush (-2), 2) := by decide +kernel
theorem dX11_law_14 : decode bX11_law 14 = .ok (.ireturn, 1) := by decide +kernel
theorem dX11_law_15 : decode bX11_law 15 = .ok (.iconst 0, 1) := by decide +kernel
theorem dX11_law_16 : decode bX11_law 16 = .ok (.istore_n 1, 1) := by decide +kernel
theorem dX11_law_17 : decode bX11_law 17 = .ok (.iconst 1, 1) := by decide +kernel
theorem dX11_law_18 : decode bX11_law 18 = .ok (.istore_n 2, 1) := by decide +kernel
theorem dX11_law_19 : decode bX11_law 19 = .ok (.iload_n 2, 1) := by decide +kernel
theorem dX11_law_20 : decode bX11_law 20 = .ok (.iconst 4, 1) := by decide +kernel
theorem dX11_law_21 : decode bX11_law 21 = .ok (.if_icmp .ge 30, 3) := by decide +kernel
theorem dX11_law_24 : decode bX11_law 24 = .ok (.aload_n 0, 1) := by decide +kernel
theorem dX11_law_25 : decode bX11_law 25 = .ok (.iload_n 2, 1) := by decide +kernel
theorem dX11_law_26 : decode bX11_law 26 = .ok (.invokevirtual 391, 3) := by decide +kernel
theorem dX11_law_29 : decode bX11_law 29 = .ok (.invokestatic 335, 3) := by decide +kernel
theorem dX11_law_32 : decode bX11_law 32 = .ok (.aload_n 0, 1) := by decide +kernel
theorem dX11_law_33 : decode bX11_law 33 = .ok (.iload_n 1, 1) := by decide +kernel
theorem dX11_law_34 : decode bX11_law 34 = .ok (.invokevirtual 391, 3) := by decide +kernel
theorem dX11_law_37 : decode bX11_law 37 = .ok (.invokestatic 335, 3) := by decide +kernel
theorem dX11_law_40 : decode bX11_law 40 = .ok (.if_icmp .le 5, 3) := by decide +kernel
theorem dX11_law_43 : decode bX11_law 43 = .ok (.iload_n 2, 1) := by decide +kernel
theorem dX11_law_44 : decode bX11_law 44 = .ok (.istore_n 1, 1) := by decide +kernel
theorem dX11_law_45 : decode bX11_law 45 = .ok (.iinc 2 1, 3) := by decide +kernel
theorem dX11_law_48 : decode bX11_law 48 = .ok (.goto (-29), 3) := by decide +kernel
theorem dX11_law_51 : decode bX11_law 51 = .ok (.iload_n 1, 1) := by decide +kernel
theorem dX11_law_52 : decode bX11_law 52 = .ok (.ireturn, 1) := by decide +kernel
theorem dX11_worthOf_0 : decode bX11_worthOf 0 = .ok (.aload_n 0, 1) := by decide +kernel
theorem dX11_worthOf_1 : decode bX11_worthOf 1 = .ok (.invokevirtual 296, 3) := by decide +kernel
theorem dX11_worthOf_4 : decode bX11_worthOf 4 = .ok (.iconst 0, 1) := by decide +kernel
theorem dX11_worthOf_5 : decode bX11_worthOf 5 = .ok (.istore_n 2, 1) := by decide +kernel
theorem dX11_worthOf_6 : decode bX11_worthOf 6 = .ok (.iload_n 2, 1) := by decide +kernel
theorem dX11_worthOf_7 : decode bX11_worthOf 7 = .ok (.aload_n 0, 1) := by decide +kernel
theorem dX11_worthOf_8 : decode bX11_worthOf 8 = .ok (.getfield 252, 3) := by decide +kernel
theorem dX11_worthOf_11 : decode bX11_worthOf 11 = .ok (.if_icmp .ge 33, 3) := by decide +kernel
theorem dX11_worthOf_14 : decode bX11_worthOf 14 = .ok (.aload_n 0, 1) := by decide +kernel
theorem dX11_worthOf_15 : decode bX11_worthOf 15 = .ok (.getfield 50, 3) := by decide +kernel
theorem dX11_worthOf_18 : decode bX11_worthOf 18 = .ok (.iload_n 2, 1) := by decide +kernel
theorem dX11_worthOf_19 : decode bX11_worthOf 19 = .ok (.iload_n 1, 1) := by decide +kernel
theorem dX11_worthOf_20 : decode bX11_worthOf 20 = .ok (.iload_n 2, 1) := by decide +kernel
theorem dX11_worthOf_21 : decode bX11_worthOf 21 = .ok (.invokestatic 258, 3) := by decide +kernel
theorem dX11_worthOf_24 : decode bX11_worthOf 24 = .ok (.ifCond .eq 12, 3) := by decide +kernel
theorem dX11_worthOf_27 : decode bX11_worthOf 27 = .ok (.aload_n 0, 1) := by decide +kernel
theorem dX11_worthOf_28 : decode bX11_worthOf 28 = .ok (.getfield 50, 3) := by decide +kernel
theorem dX11_worthOf_31 : decode bX11_worthOf 31 = .ok (.iload_n 2, 1) := by decide +kernel
theorem dX11_worthOf_32 : decode bX11_worthOf 32 = .ok (.iaload, 1) := by decide +kernel
theorem dX11_worthOf_33 : decode bX11_worthOf 33 = .ok (.goto 4, 3) := by decide +kernel
theorem dX11_worthOf_36 : decode bX11_worthOf 36 = .ok (.iconst 0, 1) := by decide +kernel
theorem dX11_worthOf_37 : decode bX11_worthOf 37 = .ok (.iastore, 1) := by decide +kernel
theorem dX11_worthOf_38 : decode bX11_worthOf 38 = .ok (.iinc 2 1, 3) := by decide +kernel
theorem dX11_worthOf_41 : decode bX11_worthOf 41 = .ok (.goto (-35), 3) := by decide +kernel
theorem dX11_worthOf_44 : decode bX11_worthOf 44 = .ok (.aload_n 0, 1) := by decide +kernel
theorem dX11_worthOf_45 : decode bX11_worthOf 45 = .ok (.invokevirtual 299, 3) := by decide +kernel
theorem dX11_worthOf_48 : decode bX11_worthOf 48 = .ok (.aload_n 0, 1) := by decide +kernel
theorem dX11_worthOf_49 : decode bX11_worthOf 49 = .ok (.invokevirtual 323, 3) := by decide +kernel
theorem dX11_worthOf_52 : decode bX11_worthOf 52 = .ok (.invokestatic 335, 3) := by decide +kernel
theorem dX11_worthOf_55 : decode bX11_worthOf 55 = .ok (.ireturn, 1) := by decide +kernel
theorem dX11_worth_0 : decode bX11_worth 0 = .ok (.aload_n 0, 1) := by decide +kernel
theorem dX11_worth_1 : decode bX11_worth 1 = .ok (.iconst 0, 1) := by decide +kernel
theorem dX11_worth_2 : decode bX11_worth 2 = .ok (.putfield 77, 3) := by decide +kernel
theorem dX11_worth_5 : decode bX11_worth 5 = .ok (.aload_n 0, 1) := by decide +kernel
theorem dX11_worth_6 : decode bX11_worth 6 = .ok (.invokevirtual 231, 3) := by decide +kernel
theorem dX11_worth_9 : decode bX11_worth 9 = .ok (.ifCond .eq 31, 3) := by decide +kernel
theorem dX11_worth_12 : decode bX11_worth 12 = .ok (.iload_n 1, 1) := by decide +kernel
theorem dX11_worth_13 : decode bX11_worth 13 = .ok (.i2l, 1) := by decide +kernel
theorem dX11_worth_14 : decode bX11_worth 14 = .ok (.lconst 0, 1) := by decide +kernel
theorem dX11_worth_15 : decode bX11_worth 15 = .ok (.iconst 1, 1) := by decide +kernel
theorem dX11_worth_16 : decode bX11_worth 16 = .ok (.aload_n 0, 1) := by decide +kernel
theorem dX11_worth_17 : decode bX11_worth 17 = .ok (.getfield 34, 3) := by decide +kernel
theorem dX11_worth_20 : decode bX11_worth 20 = .ok (.iconst 5, 1) := by decide +kernel
theorem dX11_worth_21 : decode bX11_worth 21 = .ok (.iaload, 1) := by decide +kernel
theorem dX11_worth_22 : decode bX11_worth 22 = .ok (.ishl, 1) := by decide +kernel
theorem dX11_worth_23 : decode bX11_worth 23 = .ok (.i2l, 1) := by decide +kernel
theorem dX11_worth_24 : decode bX11_worth 24 = .ok (.lconst 1, 1) := by decide +kernel
theorem dX11_worth_25 : decode bX11_worth 25 = .ok (.lsub, 1) := by decide +kernel
theorem dX11_worth_26 : decode bX11_worth 26 = .ok (.invokestatic 82, 3) := by decide +kernel
theorem dX11_worth_29 : decode bX11_worth 29 = .ok (.ifCond .eq 11, 3) := by decide +kernel
theorem dX11_worth_32 : decode bX11_worth 32 = .ok (.aload_n 0, 1) := by decide +kernel
theorem dX11_worth_33 : decode bX11_worth 33 = .ok (.iload_n 1, 1) := by decide +kernel
theorem dX11_worth_34 : decode bX11_worth 34 = .ok (.invokevirtual 394, 3) := by decide +kernel
theorem dX11_worth_37 : decode bX11_worth 37 = .ok (.goto 5, 3) := by decide +kernel
theorem dX11_worth_40 : decode bX11_worth 40 = .ok (.bipush (-2), 2) := by decide +kernel
theorem dX11_worth_42 : decode bX11_worth 42 = .ok (.ireturn, 1) := by decide +kernel
theorem dX11_times_0 : decode bX11_times 0 = .ok (.iload_n 0, 1) := by decide +kernel
theorem dX11_times_1 : decode bX11_times 1 = .ok (.iconst 2, 1) := by decide +kernel
theorem dX11_times_2 : decode bX11_times 2 = .ok (.if_icmp .ge 7, 3) := by decide +kernel
theorem dX11_times_5 : decode bX11_times 5 = .ok (.iconst 1, 1) := by decide +kernel
theorem dX11_times_6 : decode bX11_times 6 = .ok (.goto 11, 3) := by decide +kernel
theorem dX11_times_9 : decode bX11_times 9 = .ok (.iload_n 0, 1) := by decide +kernel
theorem dX11_times_10 : decode bX11_times 10 = .ok (.iload_n 0, 1) := by decide +kernel
theorem dX11_times_11 : decode bX11_times 11 = .ok (.iconst 1, 1) := by decide +kernel
theorem dX11_times_12 : decode bX11_times 12 = .ok (.isub, 1) := by decide +kernel
theorem dX11_times_13 : decode bX11_times 13 = .ok (.invokestatic 397, 3) := by decide +kernel
theorem dX11_times_16 : decode bX11_times 16 = .ok (.imul, 1) := by decide +kernel
theorem dX11_times_17 : decode bX11_times 17 = .ok (.ireturn, 1) := by decide +kernel
theorem dX11_common_0 : decode bX11_common 0 = .ok (.lload_n 2, 1) := by decide +kernel
theorem dX11_common_1 : decode bX11_common 1 = .ok (.lconst 0, 1) := by decide +kernel
theorem dX11_common_2 : decode bX11_common 2 = .ok (.lcmp, 1) := by decide +kernel
theorem dX11_common_3 : decode bX11_common 3 = .ok (.ifCond .ne 18, 3) := by decide +kernel
theorem dX11_common_6 : decode bX11_common 6 = .ok (.lload_n 0, 1) := by decide +kernel
theorem dX11_common_7 : decode bX11_common 7 = .ok (.lconst 0, 1) := by decide +kernel
theorem dX11_common_8 : decode bX11_common 8 = .ok (.lcmp, 1) := by decide +kernel
theorem dX11_common_9 : decode bX11_common 9 = .ok (.ifCond .ge 8, 3) := by decide +kernel
theorem dX11_common_12 : decode bX11_common 12 = .ok (.lload_n 0, 1) := by decide +kernel
theorem dX11_common_13 : decode bX11_common 13 = .ok (.lneg, 1) := by decide +kernel
theorem dX11_common_14 : decode bX11_common 14 = .ok (.goto 14, 3) := by decide +kernel
theorem dX11_common_17 : decode bX11_common 17 = .ok (.lload_n 0, 1) := by decide +kernel
theorem dX11_common_18 : decode bX11_common 18 = .ok (.goto 10, 3) := by decide +kernel
theorem dX11_common_21 : decode bX11_common 21 = .ok (.lload_n 2, 1) := by decide +kernel
theorem dX11_common_22 : decode bX11_common 22 = .ok (.lload_n 0, 1) := by decide +kernel
theorem dX11_common_23 : decode bX11_common 23 = .ok (.lload_n 2, 1) := by decide +kernel
theorem dX11_common_24 : decode bX11_common 24 = .ok (.lrem, 1) := by decide +kernel
theorem dX11_common_25 : decode bX11_common 25 = .ok (.invokestatic 400, 3) := by decide +kernel
theorem dX11_common_28 : decode bX11_common 28 = .ok (.lreturn, 1) := by decide +kernel
theorem dX11_partOf_0 : decode bX11_partOf 0 = .ok (.iload 4, 2) := by decide +kernel
theorem dX11_partOf_2 : decode bX11_partOf 2 = .ok (.ifCond .ne 7, 3) := by decide +kernel
theorem dX11_partOf_5 : decode bX11_partOf 5 = .ok (.lload_n 0, 1) := by decide +kernel
theorem dX11_partOf_6 : decode bX11_partOf 6 = .ok (.goto 4, 3) := by decide +kernel
theorem dX11_partOf_9 : decode bX11_partOf 9 = .ok (.lload_n 2, 1) := by decide +kernel
theorem dX11_partOf_10 : decode bX11_partOf 10 = .ok (.lload_n 0, 1) := by decide +kernel
theorem dX11_partOf_11 : decode bX11_partOf 11 = .ok (.lload_n 2, 1) := by decide +kernel
theorem dX11_partOf_12 : decode bX11_partOf 12 = .ok (.invokestatic 400, 3) := by decide +kernel
theorem dX11_partOf_15 : decode bX11_partOf 15 = .ok (.ldiv, 1) := by decide +kernel
theorem dX11_partOf_16 : decode bX11_partOf 16 = .ok (.lreturn, 1) := by decide +kernel
theorem dX11_share_0 : decode bX11_share 0 = .ok (.aload_n 0, 1) := by decide +kernel
theorem dX11_share_1 : decode bX11_share 1 = .ok (.iconst 0, 1) := by decide +kernel
theorem dX11_share_2 : decode bX11_share 2 = .ok (.putfield 77, 3) := by decide +kernel
theorem dX11_share_5 : decode bX11_share 5 = .ok (.aload_n 0, 1) := by decide +kernel
theorem dX11_share_6 : decode bX11_share 6 = .ok (.iload_n 1, 1) := by decide +kernel
theorem dX11_share_7 : decode bX11_share 7 = .ok (.invokevirtual 302, 3) := by decide +kernel
theorem dX11_share_10 : decode bX11_share 10 = .ok (.ifCond .eq 10, 3) := by decide +kernel
theorem dX11_share_13 : decode bX11_share 13 = .ok (.iload_n 2, 1) := by decide +kernel
theorem dX11_share_14 : decode bX11_share 14 = .ok (.invokestatic 404, 3) := by decide +kernel
theorem dX11_share_17 : decode bX11_share 17 = .ok (.ifCond .ne 7, 3) := by decide +kernel
theorem dX11_share_20 : decode bX11_share 20 = .ok (.ldc_w 407, 3) := by decide +kernel
theorem dX11_share_23 : decode bX11_share 23 = .ok (.ireturn, 1) := by decide +kernel
theorem dX11_share_24 : decode bX11_share 24 = .ok (.aload_n 0, 1) := by decide +kernel
theorem dX11_share_25 : decode bX11_share 25 = .ok (.getfield 34, 3) := by decide +kernel
theorem dX11_share_28 : decode bX11_share 28 = .ok (.iconst 5, 1) := by decide +kernel
theorem dX11_share_29 : decode bX11_share 29 = .ok (.iaload, 1) := by decide +kernel
theorem dX11_share_30 : decode bX11_share 30 = .ok (.istore_n 3, 1) := by decide +kernel
theorem dX11_share_31 : decode bX11_share 31 = .ok (.iconst 0, 1) := by decide +kernel
theorem dX11_share_32 : decode bX11_share 32 = .ok (.istore 4, 2) := by decide +kernel
theorem dX11_share_34 : decode bX11_share 34 = .ok (.iconst 0, 1) := by decide +kernel
theorem dX11_share_35 : decode bX11_share 35 = .ok (.istore 5, 2) := by decide +kernel
theorem dX11_share_37 : decode bX11_share 37 = .ok (.iload 5, 2) := by decide +kernel
theorem dX11_share_39 : decode bX11_share 39 = .ok (.iconst 1, 1) := by decide +kernel
theorem dX11_share_40 : decode bX11_share 40 = .ok (.iload_n 3, 1) := by decide +kernel
theorem dX11_share_41 : decode bX11_share 41 = .ok (.ishl, 1) := by decide +kernel
theorem dX11_share_42 : decode bX11_share 42 = .ok (.if_icmp .ge 66, 3) := by decide +kernel
theorem dX11_share_45 : decode bX11_share 45 = .ok (.iload 5, 2) := by decide +kernel
theorem dX11_share_47 : decode bX11_share 47 = .ok (.iload_n 1, 1) := by decide +kernel
theorem dX11_share_48 : decode bX11_share 48 = .ok (.invokestatic 258, 3) := by decide +kernel
theorem dX11_share_51 : decode bX11_share 51 = .ok (.ifCond .eq 6, 3) := by decide +kernel
theorem dX11_share_54 : decode bX11_share 54 = .ok (.goto 48, 3) := by decide +kernel
theorem dX11_share_57 : decode bX11_share 57 = .ok (.iload 5, 2) := by decide +kernel
theorem dX11_share_59 : decode bX11_share 59 = .ok (.invokestatic 335, 3) := by decide +kernel
theorem dX11_share_62 : decode bX11_share 62 = .ok (.istore 6, 2) := by decide +kernel
theorem dX11_share_64 : decode bX11_share 64 = .ok (.iload 4, 2) := by decide +kernel
theorem dX11_share_66 : decode bX11_share 66 = .ok (.iload 6, 2) := by decide +kernel
theorem dX11_share_68 : decode bX11_share 68 = .ok (.invokestatic 397, 3) := by decide +kernel
theorem dX11_share_71 : decode bX11_share 71 = .ok (.iload_n 3, 1) := by decide +kernel
theorem dX11_share_72 : decode bX11_share 72 = .ok (.iload 6, 2) := by decide +kernel
theorem dX11_share_74 : decode bX11_share 74 = .ok (.isub, 1) := by decide +kernel
theorem dX11_share_75 : decode bX11_share 75 = .ok (.iconst 1, 1) := by decide +kernel
theorem dX11_share_76 : decode bX11_share 76 = .ok (.isub, 1) := by decide +kernel
theorem dX11_share_77 : decode bX11_share 77 = .ok (.invokestatic 397, 3) := by decide +kernel
theorem dX11_share_80 : decode bX11_share 80 = .ok (.imul, 1) := by decide +kernel
theorem dX11_share_81 : decode bX11_share 81 = .ok (.aload_n 0, 1) := by decide +kernel
theorem dX11_share_82 : decode bX11_share 82 = .ok (.iload 5, 2) := by decide +kernel
theorem dX11_share_84 : decode bX11_share 84 = .ok (.iconst 1, 1) := by decide +kernel
theorem dX11_share_85 : decode bX11_share 85 = .ok (.iload_n 1, 1) := by decide +kernel
theorem dX11_share_86 : decode bX11_share 86 = .ok (.ishl, 1) := by decide +kernel
theorem dX11_share_87 : decode bX11_share 87 = .ok (.ior, 1) := by decide +kernel
theorem dX11_share_88 : decode bX11_share 88 = .ok (.invokevirtual 394, 3) := by decide +kernel
theorem dX11_share_91 : decode bX11_share 91 = .ok (.aload_n 0, 1) := by decide +kernel
theorem dX11_share_92 : decode bX11_share 92 = .ok (.iload 5, 2) := by decide +kernel
theorem dX11_share_94 : decode bX11_share 94 = .ok (.invokevirtual 394, 3) := by decide +kernel
theorem dX11_share_97 : decode bX11_share 97 = .ok (.isub, 1) := by decide +kernel
theorem dX11_share_98 : decode bX11_share 98 = .ok (.imul, 1) := by decide +kernel
theorem dX11_share_99 : decode bX11_share 99 = .ok (.iadd, 1) := by decide +kernel
theorem dX11_share_100 : decode bX11_share 100 = .ok (.istore 4, 2) := by decide +kernel
theorem dX11_share_102 : decode bX11_share 102 = .ok (.iinc 5 1, 3) := by decide +kernel
theorem dX11_share_105 : decode bX11_share 105 = .ok (.goto (-68), 3) := by decide +kernel
theorem dX11_share_108 : decode bX11_share 108 = .ok (.iload 4, 2) := by decide +kernel
theorem dX11_share_110 : decode bX11_share 110 = .ok (.i2l, 1) := by decide +kernel
theorem dX11_share_111 : decode bX11_share 111 = .ok (.iload_n 3, 1) := by decide +kernel
theorem dX11_share_112 : decode bX11_share 112 = .ok (.invokestatic 397, 3) := by decide +kernel
theorem dX11_share_115 : decode bX11_share 115 = .ok (.i2l, 1) := by decide +kernel
theorem dX11_share_116 : decode bX11_share 116 = .ok (.iload_n 2, 1) := by decide +kernel
theorem dX11_share_117 : decode bX11_share 117 = .ok (.invokestatic 408, 3) := by decide +kernel
theorem dX11_share_120 : decode bX11_share 120 = .ok (.l2i, 1) := by decide +kernel
theorem dX11_share_121 : decode bX11_share 121 = .ok (.ireturn, 1) := by decide +kernel
theorem dX11_getsBy_0 : decode bX11_getsBy 0 = .ok (.aload_n 0, 1) := by decide +kernel
theorem dX11_getsBy_1 : decode bX11_getsBy 1 = .ok (.invokevirtual 296, 3) := by decide +kernel
theorem dX11_getsBy_4 : decode bX11_getsBy 4 = .ok (.aload_n 0, 1) := by decide +kernel
theorem dX11_getsBy_5 : decode bX11_getsBy 5 = .ok (.getfield 50, 3) := by decide +kernel
theorem dX11_getsBy_8 : decode bX11_getsBy 8 = .ok (.iload_n 1, 1) := by decide +kernel
theorem dX11_getsBy_9 : decode bX11_getsBy 9 = .ok (.dup2, 1) := by decide +kernel
theorem dX11_getsBy_10 : decode bX11_getsBy 10 = .ok (.iaload, 1) := by decide +kernel
theorem dX11_getsBy_11 : decode bX11_getsBy 11 = .ok (.bipush 50, 2) := by decide +kernel
theorem dX11_getsBy_13 : decode bX11_getsBy 13 = .ok (.iload_n 3, 1) := by decide +kernel
theorem dX11_getsBy_14 : decode bX11_getsBy 14 = .ok (.imul, 1) := by decide +kernel
theorem dX11_getsBy_15 : decode bX11_getsBy 15 = .ok (.iadd, 1) := by decide +kernel
theorem dX11_getsBy_16 : decode bX11_getsBy 16 = .ok (.iastore, 1) := by decide +kernel
theorem dX11_getsBy_17 : decode bX11_getsBy 17 = .ok (.aload_n 0, 1) := by decide +kernel
theorem dX11_getsBy_18 : decode bX11_getsBy 18 = .ok (.getfield 50, 3) := by decide +kernel
theorem dX11_getsBy_21 : decode bX11_getsBy 21 = .ok (.iload_n 2, 1) := by decide +kernel
theorem dX11_getsBy_22 : decode bX11_getsBy 22 = .ok (.dup2, 1) := by decide +kernel
theorem dX11_getsBy_23 : decode bX11_getsBy 23 = .ok (.iaload, 1) := by decide +kernel
theorem dX11_getsBy_24 : decode bX11_getsBy 24 = .ok (.bipush 50, 2) := by decide +kernel
theorem dX11_getsBy_26 : decode bX11_getsBy 26 = .ok (.iload 4, 2) := by decide +kernel
theorem dX11_getsBy_28 : decode bX11_getsBy 28 = .ok (.imul, 1) := by decide +kernel
theorem dX11_getsBy_29 : decode bX11_getsBy 29 = .ok (.iadd, 1) := by decide +kernel
theorem dX11_getsBy_30 : decode bX11_getsBy 30 = .ok (.iastore, 1) := by decide +kernel
theorem dX11_getsBy_31 : decode bX11_getsBy 31 = .ok (.aload_n 0, 1) := by decide +kernel
theorem dX11_getsBy_32 : decode bX11_getsBy 32 = .ok (.invokevirtual 299, 3) := by decide +kernel
theorem dX11_getsBy_35 : decode bX11_getsBy 35 = .ok (.iconst 0, 1) := by decide +kernel
theorem dX11_getsBy_36 : decode bX11_getsBy 36 = .ok (.istore 6, 2) := by decide +kernel
theorem dX11_getsBy_38 : decode bX11_getsBy 38 = .ok (.iload 5, 2) := by decide +kernel
theorem dX11_getsBy_40 : decode bX11_getsBy 40 = .ok (.istore 7, 2) := by decide +kernel
theorem dX11_getsBy_42 : decode bX11_getsBy 42 = .ok (.iload 7, 2) := by decide +kernel
theorem dX11_getsBy_44 : decode bX11_getsBy 44 = .ok (.aload_n 0, 1) := by decide +kernel
theorem dX11_getsBy_45 : decode bX11_getsBy 45 = .ok (.invokevirtual 227, 3) := by decide +kernel
theorem dX11_getsBy_48 : decode bX11_getsBy 48 = .ok (.if_icmp .ge 30, 3) := by decide +kernel
theorem dX11_getsBy_51 : decode bX11_getsBy 51 = .ok (.iload 6, 2) := by decide +kernel
theorem dX11_getsBy_53 : decode bX11_getsBy 53 = .ok (.aload_n 0, 1) := by decide +kernel
theorem dX11_getsBy_54 : decode bX11_getsBy 54 = .ok (.getfield 71, 3) := by decide +kernel
theorem dX11_getsBy_57 : decode bX11_getsBy 57 = .ok (.iload 7, 2) := by decide +kernel
theorem dX11_getsBy_59 : decode bX11_getsBy 59 = .ok (.iaload, 1) := by decide +kernel
theorem dX11_getsBy_60 : decode bX11_getsBy 60 = .ok (.iconst (-1), 1) := by decide +kernel
theorem dX11_getsBy_61 : decode bX11_getsBy 61 = .ok (.if_icmp .ne 7, 3) := by decide +kernel
theorem dX11_getsBy_64 : decode bX11_getsBy 64 = .ok (.iconst 3, 1) := by decide +kernel
theorem dX11_getsBy_65 : decode bX11_getsBy 65 = .ok (.goto 4, 3) := by decide +kernel
theorem dX11_getsBy_68 : decode bX11_getsBy 68 = .ok (.iconst 0, 1) := by decide +kernel
theorem dX11_getsBy_69 : decode bX11_getsBy 69 = .ok (.iadd, 1) := by decide +kernel
theorem dX11_getsBy_70 : decode bX11_getsBy 70 = .ok (.istore 6, 2) := by decide +kernel
theorem dX11_getsBy_72 : decode bX11_getsBy 72 = .ok (.iinc 7 2, 3) := by decide +kernel
theorem dX11_getsBy_75 : decode bX11_getsBy 75 = .ok (.goto (-33), 3) := by decide +kernel
theorem dX11_getsBy_78 : decode bX11_getsBy 78 = .ok (.iload 6, 2) := by decide +kernel
theorem dX11_getsBy_80 : decode bX11_getsBy 80 = .ok (.iconst 2, 1) := by decide +kernel
theorem dX11_getsBy_81 : decode bX11_getsBy 81 = .ok (.iload 5, 2) := by decide +kernel
theorem dX11_getsBy_83 : decode bX11_getsBy 83 = .ok (.ifCond .ne 7, 3) := by decide +kernel
theorem dX11_getsBy_86 : decode bX11_getsBy 86 = .ok (.iload_n 3, 1) := by decide +kernel
theorem dX11_getsBy_87 : decode bX11_getsBy 87 = .ok (.goto 5, 3) := by decide +kernel
theorem dX11_getsBy_90 : decode bX11_getsBy 90 = .ok (.iload 4, 2) := by decide +kernel
theorem dX11_getsBy_92 : decode bX11_getsBy 92 = .ok (.imul, 1) := by decide +kernel
theorem dX11_getsBy_93 : decode bX11_getsBy 93 = .ok (.isub, 1) := by decide +kernel
theorem dX11_getsBy_94 : decode bX11_getsBy 94 = .ok (.ireturn, 1) := by decide +kernel
theorem dX11_areTwo_0 : decode bX11_areTwo 0 = .ok (.aload_n 0, 1) := by decide +kernel
theorem dX11_areTwo_1 : decode bX11_areTwo 1 = .ok (.iload_n 1, 1) := by decide +kernel
theorem dX11_areTwo_2 : decode bX11_areTwo 2 = .ok (.invokevirtual 302, 3) := by decide +kernel
theorem dX11_areTwo_5 : decode bX11_areTwo 5 = .ok (.ifCond .eq 20, 3) := by decide +kernel
theorem dX11_areTwo_8 : decode bX11_areTwo 8 = .ok (.aload_n 0, 1) := by decide +kernel
theorem dX11_areTwo_9 : decode bX11_areTwo 9 = .ok (.iload_n 2, 1) := by decide +kernel
theorem dX11_areTwo_10 : decode bX11_areTwo 10 = .ok (.invokevirtual 302, 3) := by decide +kernel
theorem dX11_areTwo_13 : decode bX11_areTwo 13 = .ok (.ifCond .eq 12, 3) := by decide +kernel
theorem dX11_areTwo_16 : decode bX11_areTwo 16 = .ok (.iload_n 1, 1) := by decide +kernel
theorem dX11_areTwo_17 : decode bX11_areTwo 17 = .ok (.iload_n 2, 1) := by decide +kernel
theorem dX11_areTwo_18 : decode bX11_areTwo 18 = .ok (.if_icmp .eq 7, 3) := by decide +kernel
theorem dX11_areTwo_21 : decode bX11_areTwo 21 = .ok (.iconst 1, 1) := by decide +kernel
theorem dX11_areTwo_22 : decode bX11_areTwo 22 = .ok (.goto 4, 3) := by decide +kernel
theorem dX11_areTwo_25 : decode bX11_areTwo 25 = .ok (.iconst 0, 1) := by decide +kernel
theorem dX11_areTwo_26 : decode bX11_areTwo 26 = .ok (.ireturn, 1) := by decide +kernel
theorem dX11_rests_0 : decode bX11_rests 0 = .ok (.aload_n 0, 1) := by decide +kernel
theorem dX11_rests_1 : decode bX11_rests 1 = .ok (.iconst 0, 1) := by decide +kernel
theorem dX11_rests_2 : decode bX11_rests 2 = .ok (.putfield 77, 3) := by decide +kernel
theorem dX11_rests_5 : decode bX11_rests 5 = .ok (.aload_n 0, 1) := by decide +kernel
theorem dX11_rests_6 : decode bX11_rests 6 = .ok (.iload_n 1, 1) := by decide +kernel
theorem dX11_rests_7 : decode bX11_rests 7 = .ok (.iload_n 2, 1) := by decide +kernel
theorem dX11_rests_8 : decode bX11_rests 8 = .ok (.invokevirtual 412, 3) := by decide +kernel
theorem dX11_rests_11 : decode bX11_rests 11 = .ok (.ifCond .ne 6, 3) := by decide +kernel
theorem dX11_rests_14 : decode bX11_rests 14 = .ok (.bipush (-2), 2) := by decide +kernel
theorem dX11_rests_16 : decode bX11_rests 16 = .ok (.ireturn, 1) := by decide +kernel
theorem dX11_rests_17 : decode bX11_rests 17 = .ok (.iconst 0, 1) := by decide +kernel
theorem dX11_rests_18 : decode bX11_rests 18 = .ok (.istore_n 3, 1) := by decide +kernel
theorem dX11_rests_19 : decode bX11_rests 19 = .ok (.iconst 0, 1) := by decide +kernel
theorem dX11_rests_20 : decode bX11_rests 20 = .ok (.istore 4, 2) := by decide +kernel
theorem dX11_rests_22 : decode bX11_rests 22 = .ok (.iload 4, 2) := by decide +kernel
theorem dX11_rests_24 : decode bX11_rests 24 = .ok (.iconst 4, 1) := by decide +kernel
theorem dX11_rests_25 : decode bX11_rests 25 = .ok (.if_icmp .ge 98, 3) := by decide +kernel
theorem dX11_rests_28 : decode bX11_rests 28 = .ok (.iload 4, 2) := by decide +kernel
theorem dX11_rests_30 : decode bX11_rests 30 = .ok (.iconst 2, 1) := by decide +kernel
theorem dX11_rests_31 : decode bX11_rests 31 = .ok (.irem, 1) := by decide +kernel
theorem dX11_rests_32 : decode bX11_rests 32 = .ok (.istore 5, 2) := by decide +kernel
theorem dX11_rests_34 : decode bX11_rests 34 = .ok (.iload 4, 2) := by decide +kernel
theorem dX11_rests_36 : decode bX11_rests 36 = .ok (.iconst 2, 1) := by decide +kernel
theorem dX11_rests_37 : decode bX11_rests 37 = .ok (.idiv, 1) := by decide +kernel
theorem dX11_rests_38 : decode bX11_rests 38 = .ok (.istore 6, 2) := by decide +kernel
theorem dX11_rests_40 : decode bX11_rests 40 = .ok (.aload_n 0, 1) := by decide +kernel
theorem dX11_rests_41 : decode bX11_rests 41 = .ok (.iload_n 1, 1) := by decide +kernel
theorem dX11_rests_42 : decode bX11_rests 42 = .ok (.iload_n 2, 1) := by decide +kernel
theorem dX11_rests_43 : decode bX11_rests 43 = .ok (.iconst 1, 1) := by decide +kernel
theorem dX11_rests_44 : decode bX11_rests 44 = .ok (.iload 5, 2) := by decide +kernel
theorem dX11_rests_46 : decode bX11_rests 46 = .ok (.isub, 1) := by decide +kernel
theorem dX11_rests_47 : decode bX11_rests 47 = .ok (.iload 6, 2) := by decide +kernel
theorem dX11_rests_49 : decode bX11_rests 49 = .ok (.iconst 0, 1) := by decide +kernel
theorem dX11_rests_50 : decode bX11_rests 50 = .ok (.invokevirtual 415, 3) := by decide +kernel
theorem dX11_rests_53 : decode bX11_rests 53 = .ok (.aload_n 0, 1) := by decide +kernel
theorem dX11_rests_54 : decode bX11_rests 54 = .ok (.iload_n 1, 1) := by decide +kernel
theorem dX11_rests_55 : decode bX11_rests 55 = .ok (.iload_n 2, 1) := by decide +kernel
theorem dX11_rests_56 : decode bX11_rests 56 = .ok (.iload 5, 2) := by decide +kernel
theorem dX11_rests_58 : decode bX11_rests 58 = .ok (.iload 6, 2) := by decide +kernel
theorem dX11_rests_60 : decode bX11_rests 60 = .ok (.iconst 0, 1) := by decide +kernel
theorem dX11_rests_61 : decode bX11_rests 61 = .ok (.invokevirtual 415, 3) := by decide +kernel
theorem dX11_rests_64 : decode bX11_rests 64 = .ok (.if_icmp .gt 34, 3) := by decide +kernel
theorem dX11_rests_67 : decode bX11_rests 67 = .ok (.aload_n 0, 1) := by decide +kernel
theorem dX11_rests_68 : decode bX11_rests 68 = .ok (.iload_n 1, 1) := by decide +kernel
theorem dX11_rests_69 : decode bX11_rests 69 = .ok (.iload_n 2, 1) := by decide +kernel
theorem dX11_rests_70 : decode bX11_rests 70 = .ok (.iload 5, 2) := by decide +kernel
theorem dX11_rests_72 : decode bX11_rests 72 = .ok (.iconst 1, 1) := by decide +kernel
theorem dX11_rests_73 : decode bX11_rests 73 = .ok (.iload 6, 2) := by decide +kernel
theorem dX11_rests_75 : decode bX11_rests 75 = .ok (.isub, 1) := by decide +kernel
theorem dX11_rests_76 : decode bX11_rests 76 = .ok (.iconst 1, 1) := by decide +kernel
theorem dX11_rests_77 : decode bX11_rests 77 = .ok (.invokevirtual 415, 3) := by decide +kernel
theorem dX11_rests_80 : decode bX11_rests 80 = .ok (.aload_n 0, 1) := by decide +kernel
theorem dX11_rests_81 : decode bX11_rests 81 = .ok (.iload_n 1, 1) := by decide +kernel
theorem dX11_rests_82 : decode bX11_rests 82 = .ok (.iload_n 2, 1) := by decide +kernel
theorem dX11_rests_83 : decode bX11_rests 83 = .ok (.iload 5, 2) := by decide +kernel
theorem dX11_rests_85 : decode bX11_rests 85 = .ok (.iload 6, 2) := by decide +kernel
theorem dX11_rests_87 : decode bX11_rests 87 = .ok (.iconst 1, 1) := by decide +kernel
theorem dX11_rests_88 : decode bX11_rests 88 = .ok (.invokevirtual 415, 3) := by decide +kernel
theorem dX11_rests_91 : decode bX11_rests 91 = .ok (.if_icmp .gt 7, 3) := by decide +kernel
theorem dX11_rests_94 : decode bX11_rests 94 = .ok (.iconst 1, 1) := by decide +kernel
theorem dX11_rests_95 : decode bX11_rests 95 = .ok (.goto 4, 3) := by decide +kernel
theorem dX11_rests_98 : decode bX11_rests 98 = .ok (.iconst 0, 1) := by decide +kernel
theorem dX11_rests_99 : decode bX11_rests 99 = .ok (.istore 7, 2) := by decide +kernel
theorem dX11_rests_101 : decode bX11_rests 101 = .ok (.iload_n 3, 1) := by decide +kernel
theorem dX11_rests_102 : decode bX11_rests 102 = .ok (.iload 7, 2) := by decide +kernel
theorem dX11_rests_104 : decode bX11_rests 104 = .ok (.ifCond .eq 10, 3) := by decide +kernel
theorem dX11_rests_107 : decode bX11_rests 107 = .ok (.iconst 1, 1) := by decide +kernel
theorem dX11_rests_108 : decode bX11_rests 108 = .ok (.iload 4, 2) := by decide +kernel
theorem dX11_rests_110 : decode bX11_rests 110 = .ok (.ishl, 1) := by decide +kernel
theorem dX11_rests_111 : decode bX11_rests 111 = .ok (.goto 4, 3) := by decide +kernel
theorem dX11_rests_114 : decode bX11_rests 114 = .ok (.iconst 0, 1) := by decide +kernel
theorem dX11_rests_115 : decode bX11_rests 115 = .ok (.ior, 1) := by decide +kernel
theorem dX11_rests_116 : decode bX11_rests 116 = .ok (.istore_n 3, 1) := by decide +kernel
theorem dX11_rests_117 : decode bX11_rests 117 = .ok (.iinc 4 1, 3) := by decide +kernel
theorem dX11_rests_120 : decode bX11_rests 120 = .ok (.goto (-98), 3) := by decide +kernel
theorem dX11_rests_123 : decode bX11_rests 123 = .ok (.iload_n 3, 1) := by decide +kernel
theorem dX11_rests_124 : decode bX11_rests 124 = .ok (.ireturn, 1) := by decide +kernel
theorem dX11_gets_0 : decode bX11_gets 0 = .ok (.aload_n 0, 1) := by decide +kernel
theorem dX11_gets_1 : decode bX11_gets 1 = .ok (.iconst 0, 1) := by decide +kernel
theorem dX11_gets_2 : decode bX11_gets 2 = .ok (.putfield 77, 3) := by decide +kernel
theorem dX11_gets_5 : decode bX11_gets 5 = .ok (.aload_n 0, 1) := by decide +kernel
theorem dX11_gets_6 : decode bX11_gets 6 = .ok (.iload_n 1, 1) := by decide +kernel
theorem dX11_gets_7 : decode bX11_gets 7 = .ok (.iload_n 2, 1) := by decide +kernel
theorem dX11_gets_8 : decode bX11_gets 8 = .ok (.invokevirtual 412, 3) := by decide +kernel
theorem dX11_gets_11 : decode bX11_gets 11 = .ok (.ifCond .eq 40, 3) := by decide +kernel
theorem dX11_gets_14 : decode bX11_gets 14 = .ok (.iload_n 3, 1) := by decide +kernel
theorem dX11_gets_15 : decode bX11_gets 15 = .ok (.invokestatic 404, 3) := by decide +kernel
theorem dX11_gets_18 : decode bX11_gets 18 = .ok (.ifCond .eq 33, 3) := by decide +kernel
theorem dX11_gets_21 : decode bX11_gets 21 = .ok (.iload 4, 2) := by decide +kernel
theorem dX11_gets_23 : decode bX11_gets 23 = .ok (.invokestatic 404, 3) := by decide +kernel
theorem dX11_gets_26 : decode bX11_gets 26 = .ok (.ifCond .eq 25, 3) := by decide +kernel
theorem dX11_gets_29 : decode bX11_gets 29 = .ok (.iload 5, 2) := by decide +kernel
theorem dX11_gets_31 : decode bX11_gets 31 = .ok (.invokestatic 404, 3) := by decide +kernel
theorem dX11_gets_34 : decode bX11_gets 34 = .ok (.ifCond .eq 17, 3) := by decide +kernel
theorem dX11_gets_37 : decode bX11_gets 37 = .ok (.aload_n 0, 1) := by decide +kernel
theorem dX11_gets_38 : decode bX11_gets 38 = .ok (.iload_n 1, 1) := by decide +kernel
theorem dX11_gets_39 : decode bX11_gets 39 = .ok (.iload_n 2, 1) := by decide +kernel
theorem dX11_gets_40 : decode bX11_gets 40 = .ok (.iload_n 3, 1) := by decide +kernel
theorem dX11_gets_41 : decode bX11_gets 41 = .ok (.iload 4, 2) := by decide +kernel
theorem dX11_gets_43 : decode bX11_gets 43 = .ok (.iload 5, 2) := by decide +kernel
theorem dX11_gets_45 : decode bX11_gets 45 = .ok (.invokevirtual 415, 3) := by decide +kernel
theorem dX11_gets_48 : decode bX11_gets 48 = .ok (.goto 6, 3) := by decide +kernel
theorem dX11_gets_51 : decode bX11_gets 51 = .ok (.sipush (-1000), 3) := by decide +kernel
theorem dX11_gets_54 : decode bX11_gets 54 = .ok (.ireturn, 1) := by decide +kernel
theorem dX11_power_0 : decode bX11_power 0 = .ok (.iload_n 2, 1) := by decide +kernel
theorem dX11_power_1 : decode bX11_power 1 = .ok (.ifCond .ne 7, 3) := by decide +kernel
theorem dX11_power_4 : decode bX11_power 4 = .ok (.lconst 1, 1) := by decide +kernel
theorem dX11_power_5 : decode bX11_power 5 = .ok (.goto 12, 3) := by decide +kernel
theorem dX11_power_8 : decode bX11_power 8 = .ok (.lload_n 0, 1) := by decide +kernel
theorem dX11_power_9 : decode bX11_power 9 = .ok (.lload_n 0, 1) := by decide +kernel
theorem dX11_power_10 : decode bX11_power 10 = .ok (.iload_n 2, 1) := by decide +kernel
theorem dX11_power_11 : decode bX11_power 11 = .ok (.iconst 1, 1) := by decide +kernel
theorem dX11_power_12 : decode bX11_power 12 = .ok (.isub, 1) := by decide +kernel
theorem dX11_power_13 : decode bX11_power 13 = .ok (.invokestatic 419, 3) := by decide +kernel
theorem dX11_power_16 : decode bX11_power 16 = .ok (.lmul, 1) := by decide +kernel
theorem dX11_power_17 : decode bX11_power 17 = .ok (.lreturn, 1) := by decide +kernel
theorem dX11_weightOf_0 : decode bX11_weightOf 0 = .ok (.aload_n 0, 1) := by decide +kernel
theorem dX11_weightOf_1 : decode bX11_weightOf 1 = .ok (.invokevirtual 296, 3) := by decide +kernel
theorem dX11_weightOf_4 : decode bX11_weightOf 4 = .ok (.lconst 0, 1) := by decide +kernel
theorem dX11_weightOf_5 : decode bX11_weightOf 5 = .ok (.lstore_n 3, 1) := by decide +kernel
theorem dX11_weightOf_6 : decode bX11_weightOf 6 = .ok (.iconst 0, 1) := by decide +kernel
theorem dX11_weightOf_7 : decode bX11_weightOf 7 = .ok (.istore 5, 2) := by decide +kernel
theorem dX11_weightOf_9 : decode bX11_weightOf 9 = .ok (.iload 5, 2) := by decide +kernel
theorem dX11_weightOf_11 : decode bX11_weightOf 11 = .ok (.iconst 1, 1) := by decide +kernel
theorem dX11_weightOf_12 : decode bX11_weightOf 12 = .ok (.iload_n 2, 1) := by decide +kernel
theorem dX11_weightOf_13 : decode bX11_weightOf 13 = .ok (.ishl, 1) := by decide +kernel
theorem dX11_weightOf_14 : decode bX11_weightOf 14 = .ok (.if_icmp .ge 115, 3) := by decide +kernel
theorem dX11_weightOf_17 : decode bX11_weightOf 17 = .ok (.aload_n 0, 1) := by decide +kernel
theorem dX11_weightOf_18 : decode bX11_weightOf 18 = .ok (.iload 5, 2) := by decide +kernel
theorem dX11_weightOf_20 : decode bX11_weightOf 20 = .ok (.putfield 249, 3) := by decide +kernel
theorem dX11_weightOf_23 : decode bX11_weightOf 23 = .ok (.aload_n 0, 1) := by decide +kernel
theorem dX11_weightOf_24 : decode bX11_weightOf 24 = .ok (.invokevirtual 299, 3) := by decide +kernel
theorem dX11_weightOf_27 : decode bX11_weightOf 27 = .ok (.iconst 0, 1) := by decide +kernel
theorem dX11_weightOf_28 : decode bX11_weightOf 28 = .ok (.istore 6, 2) := by decide +kernel
theorem dX11_weightOf_30 : decode bX11_weightOf 30 = .ok (.iconst 0, 1) := by decide +kernel
theorem dX11_weightOf_31 : decode bX11_weightOf 31 = .ok (.istore 7, 2) := by decide +kernel
theorem dX11_weightOf_33 : decode bX11_weightOf 33 = .ok (.iload 7, 2) := by decide +kernel
theorem dX11_weightOf_35 : decode bX11_weightOf 35 = .ok (.aload_n 0, 1) := by decide +kernel
theorem dX11_weightOf_36 : decode bX11_weightOf 36 = .ok (.invokevirtual 227, 3) := by decide +kernel
theorem dX11_weightOf_39 : decode bX11_weightOf 39 = .ok (.if_icmp .ge 40, 3) := by decide +kernel
theorem dX11_weightOf_42 : decode bX11_weightOf 42 = .ok (.iload 6, 2) := by decide +kernel
theorem dX11_weightOf_44 : decode bX11_weightOf 44 = .ok (.iload_n 1, 1) := by decide +kernel
theorem dX11_weightOf_45 : decode bX11_weightOf 45 = .ok (.iconst (-1), 1) := by decide +kernel
theorem dX11_weightOf_46 : decode bX11_weightOf 46 = .ok (.if_icmp .eq 9, 3) := by decide +kernel
theorem dX11_weightOf_49 : decode bX11_weightOf 49 = .ok (.iload 7, 2) := by decide +kernel
theorem dX11_weightOf_51 : decode bX11_weightOf 51 = .ok (.iload_n 1, 1) := by decide +kernel
theorem dX11_weightOf_52 : decode bX11_weightOf 52 = .ok (.if_icmp .ne 17, 3) := by decide +kernel
theorem dX11_weightOf_55 : decode bX11_weightOf 55 = .ok (.aload_n 0, 1) := by decide +kernel
theorem dX11_weightOf_56 : decode bX11_weightOf 56 = .ok (.iload 7, 2) := by decide +kernel
theorem dX11_weightOf_58 : decode bX11_weightOf 58 = .ok (.iload_n 2, 1) := by decide +kernel
theorem dX11_weightOf_59 : decode bX11_weightOf 59 = .ok (.invokevirtual 320, 3) := by decide +kernel
theorem dX11_weightOf_62 : decode bX11_weightOf 62 = .ok (.ifCond .eq 7, 3) := by decide +kernel
theorem dX11_weightOf_65 : decode bX11_weightOf 65 = .ok (.iconst 1, 1) := by decide +kernel
theorem dX11_weightOf_66 : decode bX11_weightOf 66 = .ok (.goto 4, 3) := by decide +kernel
theorem dX11_weightOf_69 : decode bX11_weightOf 69 = .ok (.iconst 0, 1) := by decide +kernel
theorem dX11_weightOf_70 : decode bX11_weightOf 70 = .ok (.iadd, 1) := by decide +kernel
theorem dX11_weightOf_71 : decode bX11_weightOf 71 = .ok (.istore 6, 2) := by decide +kernel
theorem dX11_weightOf_73 : decode bX11_weightOf 73 = .ok (.iinc 7 1, 3) := by decide +kernel
theorem dX11_weightOf_76 : decode bX11_weightOf 76 = .ok (.goto (-43), 3) := by decide +kernel
theorem dX11_weightOf_79 : decode bX11_weightOf 79 = .ok (.lload_n 3, 1) := by decide +kernel
theorem dX11_weightOf_80 : decode bX11_weightOf 80 = .ok (.aload_n 0, 1) := by decide +kernel
theorem dX11_weightOf_81 : decode bX11_weightOf 81 = .ok (.getfield 34, 3) := by decide +kernel
theorem dX11_weightOf_84 : decode bX11_weightOf 84 = .ok (.iconst 2, 1) := by decide +kernel
theorem dX11_weightOf_85 : decode bX11_weightOf 85 = .ok (.iaload, 1) := by decide +kernel
theorem dX11_weightOf_86 : decode bX11_weightOf 86 = .ok (.i2l, 1) := by decide +kernel
theorem dX11_weightOf_87 : decode bX11_weightOf 87 = .ok (.iload 5, 2) := by decide +kernel
theorem dX11_weightOf_89 : decode bX11_weightOf 89 = .ok (.invokestatic 335, 3) := by decide +kernel
theorem dX11_weightOf_92 : decode bX11_weightOf 92 = .ok (.invokestatic 419, 3) := by decide +kernel
theorem dX11_weightOf_95 : decode bX11_weightOf 95 = .ok (.ldc2_w 422, 3) := by decide +kernel
theorem dX11_weightOf_98 : decode bX11_weightOf 98 = .ok (.aload_n 0, 1) := by decide +kernel
theorem dX11_weightOf_99 : decode bX11_weightOf 99 = .ok (.getfield 34, 3) := by decide +kernel
theorem dX11_weightOf_102 : decode bX11_weightOf 102 = .ok (.iconst 2, 1) := by decide +kernel
theorem dX11_weightOf_103 : decode bX11_weightOf 103 = .ok (.iaload, 1) := by decide +kernel
theorem dX11_weightOf_104 : decode bX11_weightOf 104 = .ok (.i2l, 1) := by decide +kernel
theorem dX11_weightOf_105 : decode bX11_weightOf 105 = .ok (.lsub, 1) := by decide +kernel
theorem dX11_weightOf_106 : decode bX11_weightOf 106 = .ok (.iload_n 2, 1) := by decide +kernel
theorem dX11_weightOf_107 : decode bX11_weightOf 107 = .ok (.iload 5, 2) := by decide +kernel
theorem dX11_weightOf_109 : decode bX11_weightOf 109 = .ok (.invokestatic 335, 3) := by decide +kernel
theorem dX11_weightOf_112 : decode bX11_weightOf 112 = .ok (.isub, 1) := by decide +kernel
theorem dX11_weightOf_113 : decode bX11_weightOf 113 = .ok (.invokestatic 419, 3) := by decide +kernel
theorem dX11_weightOf_116 : decode bX11_weightOf 116 = .ok (.lmul, 1) := by decide +kernel
theorem dX11_weightOf_117 : decode bX11_weightOf 117 = .ok (.iload 6, 2) := by decide +kernel
theorem dX11_weightOf_119 : decode bX11_weightOf 119 = .ok (.i2l, 1) := by decide +kernel
theorem dX11_weightOf_120 : decode bX11_weightOf 120 = .ok (.lmul, 1) := by decide +kernel
theorem dX11_weightOf_121 : decode bX11_weightOf 121 = .ok (.ladd, 1) := by decide +kernel
theorem dX11_weightOf_122 : decode bX11_weightOf 122 = .ok (.lstore_n 3, 1) := by decide +kernel
theorem dX11_weightOf_123 : decode bX11_weightOf 123 = .ok (.iinc 5 1, 3) := by decide +kernel
theorem dX11_weightOf_126 : decode bX11_weightOf 126 = .ok (.goto (-117), 3) := by decide +kernel
theorem dX11_weightOf_129 : decode bX11_weightOf 129 = .ok (.lload_n 3, 1) := by decide +kernel
theorem dX11_weightOf_130 : decode bX11_weightOf 130 = .ok (.lreturn, 1) := by decide +kernel
theorem dX11_isSoon_0 : decode bX11_isSoon 0 = .ok (.aload_n 0, 1) := by decide +kernel
theorem dX11_isSoon_1 : decode bX11_isSoon 1 = .ok (.invokevirtual 231, 3) := by decide +kernel
theorem dX11_isSoon_4 : decode bX11_isSoon 4 = .ok (.ifCond .eq 26, 3) := by decide +kernel
theorem dX11_isSoon_7 : decode bX11_isSoon 7 = .ok (.iload_n 1, 1) := by decide +kernel
theorem dX11_isSoon_8 : decode bX11_isSoon 8 = .ok (.i2l, 1) := by decide +kernel
theorem dX11_isSoon_9 : decode bX11_isSoon 9 = .ok (.lconst 1, 1) := by decide +kernel
theorem dX11_isSoon_10 : decode bX11_isSoon 10 = .ok (.bipush 8, 2) := by decide +kernel
theorem dX11_isSoon_12 : decode bX11_isSoon 12 = .ok (.aload_n 0, 1) := by decide +kernel
theorem dX11_isSoon_13 : decode bX11_isSoon 13 = .ok (.invokevirtual 234, 3) := by decide +kernel
theorem dX11_isSoon_16 : decode bX11_isSoon 16 = .ok (.invokestatic 283, 3) := by decide +kernel
theorem dX11_isSoon_19 : decode bX11_isSoon 19 = .ok (.i2l, 1) := by decide +kernel
theorem dX11_isSoon_20 : decode bX11_isSoon 20 = .ok (.invokestatic 82, 3) := by decide +kernel
theorem dX11_isSoon_23 : decode bX11_isSoon 23 = .ok (.ifCond .eq 7, 3) := by decide +kernel
theorem dX11_isSoon_26 : decode bX11_isSoon 26 = .ok (.iconst 1, 1) := by decide +kernel
theorem dX11_isSoon_27 : decode bX11_isSoon 27 = .ok (.goto 4, 3) := by decide +kernel
theorem dX11_isSoon_30 : decode bX11_isSoon 30 = .ok (.iconst 0, 1) := by decide +kernel
theorem dX11_isSoon_31 : decode bX11_isSoon 31 = .ok (.ireturn, 1) := by decide +kernel
theorem dX11_chance_0 : decode bX11_chance 0 = .ok (.aload_n 0, 1) := by decide +kernel
theorem dX11_chance_1 : decode bX11_chance 1 = .ok (.iconst 0, 1) := by decide +kernel
theorem dX11_chance_2 : decode bX11_chance 2 = .ok (.putfield 77, 3) := by decide +kernel
theorem dX11_chance_5 : decode bX11_chance 5 = .ok (.aload_n 0, 1) := by decide +kernel
theorem dX11_chance_6 : decode bX11_chance 6 = .ok (.iload_n 1, 1) := by decide +kernel
theorem dX11_chance_7 : decode bX11_chance 7 = .ok (.i2l, 1) := by decide +kernel
theorem dX11_chance_8 : decode bX11_chance 8 = .ok (.invokevirtual 237, 3) := by decide +kernel
theorem dX11_chance_11 : decode bX11_chance 11 = .ok (.ifCond .eq 39, 3) := by decide +kernel
theorem dX11_chance_14 : decode bX11_chance 14 = .ok (.aload_n 0, 1) := by decide +kernel
theorem dX11_chance_15 : decode bX11_chance 15 = .ok (.iload_n 2, 1) := by decide +kernel
theorem dX11_chance_16 : decode bX11_chance 16 = .ok (.invokevirtual 424, 3) := by decide +kernel
theorem dX11_chance_19 : decode bX11_chance 19 = .ok (.ifCond .eq 31, 3) := by decide +kernel
theorem dX11_chance_22 : decode bX11_chance 22 = .ok (.iload_n 3, 1) := by decide +kernel
theorem dX11_chance_23 : decode bX11_chance 23 = .ok (.invokestatic 404, 3) := by decide +kernel
theorem dX11_chance_26 : decode bX11_chance 26 = .ok (.ifCond .eq 24, 3) := by decide +kernel
theorem dX11_chance_29 : decode bX11_chance 29 = .ok (.aload_n 0, 1) := by decide +kernel
theorem dX11_chance_30 : decode bX11_chance 30 = .ok (.iload_n 1, 1) := by decide +kernel
theorem dX11_chance_31 : decode bX11_chance 31 = .ok (.iload_n 2, 1) := by decide +kernel
theorem dX11_chance_32 : decode bX11_chance 32 = .ok (.invokevirtual 427, 3) := by decide +kernel
theorem dX11_chance_35 : decode bX11_chance 35 = .ok (.ldc2_w 422, 3) := by decide +kernel
theorem dX11_chance_38 : decode bX11_chance 38 = .ok (.iload_n 2, 1) := by decide +kernel
theorem dX11_chance_39 : decode bX11_chance 39 = .ok (.invokestatic 419, 3) := by decide +kernel
theorem dX11_chance_42 : decode bX11_chance 42 = .ok (.iload_n 3, 1) := by decide +kernel
theorem dX11_chance_43 : decode bX11_chance 43 = .ok (.invokestatic 408, 3) := by decide +kernel
theorem dX11_chance_46 : decode bX11_chance 46 = .ok (.l2i, 1) := by decide +kernel
theorem dX11_chance_47 : decode bX11_chance 47 = .ok (.goto 5, 3) := by decide +kernel
theorem dX11_chance_50 : decode bX11_chance 50 = .ok (.bipush (-2), 2) := by decide +kernel
theorem dX11_chance_52 : decode bX11_chance 52 = .ok (.ireturn, 1) := by decide +kernel
theorem dX11_mean_0 : decode bX11_mean 0 = .ok (.aload_n 0, 1) := by decide +kernel
theorem dX11_mean_1 : decode bX11_mean 1 = .ok (.iconst 0, 1) := by decide +kernel
theorem dX11_mean_2 : decode bX11_mean 2 = .ok (.putfield 77, 3) := by decide +kernel
theorem dX11_mean_5 : decode bX11_mean 5 = .ok (.aload_n 0, 1) := by decide +kernel
theorem dX11_mean_6 : decode bX11_mean 6 = .ok (.iload_n 1, 1) := by decide +kernel
theorem dX11_mean_7 : decode bX11_mean 7 = .ok (.invokevirtual 424, 3) := by decide +kernel
theorem dX11_mean_10 : decode bX11_mean 10 = .ok (.ifCond .eq 30, 3) := by decide +kernel
theorem dX11_mean_13 : decode bX11_mean 13 = .ok (.iload_n 2, 1) := by decide +kernel
theorem dX11_mean_14 : decode bX11_mean 14 = .ok (.invokestatic 404, 3) := by decide +kernel
theorem dX11_mean_17 : decode bX11_mean 17 = .ok (.ifCond .eq 23, 3) := by decide +kernel
theorem dX11_mean_20 : decode bX11_mean 20 = .ok (.aload_n 0, 1) := by decide +kernel
theorem dX11_mean_21 : decode bX11_mean 21 = .ok (.iconst (-1), 1) := by decide +kernel
theorem dX11_mean_22 : decode bX11_mean 22 = .ok (.iload_n 1, 1) := by decide +kernel
theorem dX11_mean_23 : decode bX11_mean 23 = .ok (.invokevirtual 427, 3) := by decide +kernel
theorem dX11_mean_26 : decode bX11_mean 26 = .ok (.ldc2_w 422, 3) := by decide +kernel
theorem dX11_mean_29 : decode bX11_mean 29 = .ok (.iload_n 1, 1) := by decide +kernel
theorem dX11_mean_30 : decode bX11_mean 30 = .ok (.invokestatic 419, 3) := by decide +kernel
theorem dX11_mean_33 : decode bX11_mean 33 = .ok (.iload_n 2, 1) := by decide +kernel
theorem dX11_mean_34 : decode bX11_mean 34 = .ok (.invokestatic 408, 3) := by decide +kernel
theorem dX11_mean_37 : decode bX11_mean 37 = .ok (.goto 6, 3) := by decide +kernel
theorem dX11_mean_40 : decode bX11_mean 40 = .ok (.ldc2_w 431, 3) := by decide +kernel
theorem dX11_mean_43 : decode bX11_mean 43 = .ok (.lreturn, 1) := by decide +kernel
theorem dX11_draws_0 : decode bX11_draws 0 = .ok (.aload_n 0, 1) := by decide +kernel
theorem dX11_draws_1 : decode bX11_draws 1 = .ok (.invokevirtual 296, 3) := by decide +kernel
theorem dX11_draws_4 : decode bX11_draws 4 = .ok (.lload_n 1, 1) := by decide +kernel
theorem dX11_draws_5 : decode bX11_draws 5 = .ok (.lstore_n 3, 1) := by decide +kernel
theorem dX11_draws_6 : decode bX11_draws 6 = .ok (.iconst 0, 1) := by decide +kernel
theorem dX11_draws_7 : decode bX11_draws 7 = .ok (.istore 5, 2) := by decide +kernel
theorem dX11_draws_9 : decode bX11_draws 9 = .ok (.iload 5, 2) := by decide +kernel
theorem dX11_draws_11 : decode bX11_draws 11 = .ok (.aload_n 0, 1) := by decide +kernel
theorem dX11_draws_12 : decode bX11_draws 12 = .ok (.invokevirtual 234, 3) := by decide +kernel
theorem dX11_draws_15 : decode bX11_draws 15 = .ok (.if_icmp .ge 60, 3) := by decide +kernel
theorem dX11_draws_18 : decode bX11_draws 18 = .ok (.ldc2_w 433, 3) := by decide +kernel
theorem dX11_draws_21 : decode bX11_draws 21 = .ok (.lload_n 3, 1) := by decide +kernel
theorem dX11_draws_22 : decode bX11_draws 22 = .ok (.lmul, 1) := by decide +kernel
theorem dX11_draws_23 : decode bX11_draws 23 = .ok (.ldc2_w 435, 3) := by decide +kernel
theorem dX11_draws_26 : decode bX11_draws 26 = .ok (.ladd, 1) := by decide +kernel
theorem dX11_draws_27 : decode bX11_draws 27 = .ok (.ldc2_w 437, 3) := by decide +kernel
theorem dX11_draws_30 : decode bX11_draws 30 = .ok (.lrem, 1) := by decide +kernel
theorem dX11_draws_31 : decode bX11_draws 31 = .ok (.lstore_n 3, 1) := by decide +kernel
theorem dX11_draws_32 : decode bX11_draws 32 = .ok (.aload_n 0, 1) := by decide +kernel
theorem dX11_draws_33 : decode bX11_draws 33 = .ok (.dup, 1) := by decide +kernel
theorem dX11_draws_34 : decode bX11_draws 34 = .ok (.getfield 249, 3) := by decide +kernel
theorem dX11_draws_37 : decode bX11_draws 37 = .ok (.lload_n 3, 1) := by decide +kernel
theorem dX11_draws_38 : decode bX11_draws 38 = .ok (.ldc2_w 439, 3) := by decide +kernel
theorem dX11_draws_41 : decode bX11_draws 41 = .ok (.ldiv, 1) := by decide +kernel
theorem dX11_draws_42 : decode bX11_draws 42 = .ok (.ldc2_w 422, 3) := by decide +kernel
theorem dX11_draws_45 : decode bX11_draws 45 = .ok (.lrem, 1) := by decide +kernel
theorem dX11_draws_46 : decode bX11_draws 46 = .ok (.aload_n 0, 1) := by decide +kernel
theorem dX11_draws_47 : decode bX11_draws 47 = .ok (.getfield 34, 3) := by decide +kernel
theorem dX11_draws_50 : decode bX11_draws 50 = .ok (.iconst 2, 1) := by decide +kernel
theorem dX11_draws_51 : decode bX11_draws 51 = .ok (.iaload, 1) := by decide +kernel
theorem dX11_draws_52 : decode bX11_draws 52 = .ok (.i2l, 1) := by decide +kernel
theorem dX11_draws_53 : decode bX11_draws 53 = .ok (.lcmp, 1) := by decide +kernel
theorem dX11_draws_54 : decode bX11_draws 54 = .ok (.ifCond .ge 10, 3) := by decide +kernel
theorem dX11_draws_57 : decode bX11_draws 57 = .ok (.iconst 1, 1) := by decide +kernel
theorem dX11_draws_58 : decode bX11_draws 58 = .ok (.iload 5, 2) := by decide +kernel
theorem dX11_draws_60 : decode bX11_draws 60 = .ok (.ishl, 1) := by decide +kernel
theorem dX11_draws_61 : decode bX11_draws 61 = .ok (.goto 4, 3) := by decide +kernel
theorem dX11_draws_64 : decode bX11_draws 64 = .ok (.iconst 0, 1) := by decide +kernel
theorem dX11_draws_65 : decode bX11_draws 65 = .ok (.ior, 1) := by decide +kernel
theorem dX11_draws_66 : decode bX11_draws 66 = .ok (.putfield 249, 3) := by decide +kernel
theorem dX11_draws_69 : decode bX11_draws 69 = .ok (.iinc 5 1, 3) := by decide +kernel
theorem dX11_draws_72 : decode bX11_draws 72 = .ok (.goto (-63), 3) := by decide +kernel
theorem dX11_draws_75 : decode bX11_draws 75 = .ok (.aload_n 0, 1) := by decide +kernel
theorem dX11_draws_76 : decode bX11_draws 76 = .ok (.invokevirtual 299, 3) := by decide +kernel
theorem dX11_draws_79 : decode bX11_draws 79 = .ok (.return_, 1) := by decide +kernel
theorem dX11_isSeed_0 : decode bX11_isSeed 0 = .ok (.iload_n 0, 1) := by decide +kernel
theorem dX11_isSeed_1 : decode bX11_isSeed 1 = .ok (.i2l, 1) := by decide +kernel
theorem dX11_isSeed_2 : decode bX11_isSeed 2 = .ok (.lconst 0, 1) := by decide +kernel
theorem dX11_isSeed_3 : decode bX11_isSeed 3 = .ok (.ldc2_w 441, 3) := by decide +kernel
theorem dX11_isSeed_6 : decode bX11_isSeed 6 = .ok (.invokestatic 82, 3) := by decide +kernel
theorem dX11_isSeed_9 : decode bX11_isSeed 9 = .ok (.ireturn, 1) := by decide +kernel
theorem dX11_drawn_0 : decode bX11_drawn 0 = .ok (.aload_n 0, 1) := by decide +kernel
theorem dX11_drawn_1 : decode bX11_drawn 1 = .ok (.iconst 0, 1) := by decide +kernel
theorem dX11_drawn_2 : decode bX11_drawn 2 = .ok (.putfield 77, 3) := by decide +kernel
theorem dX11_drawn_5 : decode bX11_drawn 5 = .ok (.aload_n 0, 1) := by decide +kernel
theorem dX11_drawn_6 : decode bX11_drawn 6 = .ok (.invokevirtual 231, 3) := by decide +kernel
theorem dX11_drawn_9 : decode bX11_drawn 9 = .ok (.ifCond .eq 17, 3) := by decide +kernel
theorem dX11_drawn_12 : decode bX11_drawn 12 = .ok (.iload_n 1, 1) := by decide +kernel
theorem dX11_drawn_13 : decode bX11_drawn 13 = .ok (.invokestatic 443, 3) := by decide +kernel
theorem dX11_drawn_16 : decode bX11_drawn 16 = .ok (.ifCond .eq 10, 3) := by decide +kernel
theorem dX11_drawn_19 : decode bX11_drawn 19 = .ok (.iload_n 2, 1) := by decide +kernel
theorem dX11_drawn_20 : decode bX11_drawn 20 = .ok (.invokestatic 404, 3) := by decide +kernel
theorem dX11_drawn_23 : decode bX11_drawn 23 = .ok (.ifCond .ne 6, 3) := by decide +kernel
theorem dX11_drawn_26 : decode bX11_drawn 26 = .ok (.bipush (-2), 2) := by decide +kernel
theorem dX11_drawn_28 : decode bX11_drawn 28 = .ok (.ireturn, 1) := by decide +kernel
theorem dX11_drawn_29 : decode bX11_drawn 29 = .ok (.aload_n 0, 1) := by decide +kernel
theorem dX11_drawn_30 : decode bX11_drawn 30 = .ok (.iload_n 1, 1) := by decide +kernel
theorem dX11_drawn_31 : decode bX11_drawn 31 = .ok (.i2l, 1) := by decide +kernel
theorem dX11_drawn_32 : decode bX11_drawn 32 = .ok (.invokevirtual 446, 3) := by decide +kernel
theorem dX11_drawn_35 : decode bX11_drawn 35 = .ok (.iload_n 2, 1) := by decide +kernel
theorem dX11_drawn_36 : decode bX11_drawn 36 = .ok (.ifCond .ne 10, 3) := by decide +kernel
theorem dX11_drawn_39 : decode bX11_drawn 39 = .ok (.aload_n 0, 1) := by decide +kernel
theorem dX11_drawn_40 : decode bX11_drawn 40 = .ok (.getfield 249, 3) := by decide +kernel
theorem dX11_drawn_43 : decode bX11_drawn 43 = .ok (.goto 7, 3) := by decide +kernel
theorem dX11_drawn_46 : decode bX11_drawn 46 = .ok (.aload_n 0, 1) := by decide +kernel
theorem dX11_drawn_47 : decode bX11_drawn 47 = .ok (.invokevirtual 323, 3) := by decide +kernel
theorem dX11_drawn_50 : decode bX11_drawn 50 = .ok (.ireturn, 1) := by decide +kernel
theorem dX11_luck_0 : decode bX11_luck 0 = .ok (.aload_n 0, 1) := by decide +kernel
theorem dX11_luck_1 : decode bX11_luck 1 = .ok (.iconst 0, 1) := by decide +kernel
theorem dX11_luck_2 : decode bX11_luck 2 = .ok (.putfield 77, 3) := by decide +kernel
theorem dX11_luck_5 : decode bX11_luck 5 = .ok (.iload_n 1, 1) := by decide +kernel
theorem dX11_luck_6 : decode bX11_luck 6 = .ok (.invokestatic 443, 3) := by decide +kernel
theorem dX11_luck_9 : decode bX11_luck 9 = .ok (.ifCond .eq 24, 3) := by decide +kernel
theorem dX11_luck_12 : decode bX11_luck 12 = .ok (.iload_n 2, 1) := by decide +kernel
theorem dX11_luck_13 : decode bX11_luck 13 = .ok (.i2l, 1) := by decide +kernel
theorem dX11_luck_14 : decode bX11_luck 14 = .ok (.lconst 1, 1) := by decide +kernel
theorem dX11_luck_15 : decode bX11_luck 15 = .ok (.ldc2_w 449, 3) := by decide +kernel
theorem dX11_luck_18 : decode bX11_luck 18 = .ok (.invokestatic 82, 3) := by decide +kernel
theorem dX11_luck_21 : decode bX11_luck 21 = .ok (.ifCond .eq 12, 3) := by decide +kernel
theorem dX11_luck_24 : decode bX11_luck 24 = .ok (.aload_n 0, 1) := by decide +kernel
theorem dX11_luck_25 : decode bX11_luck 25 = .ok (.iload_n 3, 1) := by decide +kernel
theorem dX11_luck_26 : decode bX11_luck 26 = .ok (.i2l, 1) := by decide +kernel
theorem dX11_luck_27 : decode bX11_luck 27 = .ok (.invokevirtual 237, 3) := by decide +kernel
theorem dX11_luck_30 : decode bX11_luck 30 = .ok (.ifCond .ne 6, 3) := by decide +kernel
theorem dX11_luck_33 : decode bX11_luck 33 = .ok (.bipush (-2), 2) := by decide +kernel
theorem dX11_luck_35 : decode bX11_luck 35 = .ok (.ireturn, 1) := by decide +kernel
theorem dX11_luck_36 : decode bX11_luck 36 = .ok (.iconst 0, 1) := by decide +kernel
theorem dX11_luck_37 : decode bX11_luck 37 = .ok (.istore 4, 2) := by decide +kernel
theorem dX11_luck_39 : decode bX11_luck 39 = .ok (.iconst 0, 1) := by decide +kernel
theorem dX11_luck_40 : decode bX11_luck 40 = .ok (.istore 5, 2) := by decide +kernel
theorem dX11_luck_42 : decode bX11_luck 42 = .ok (.iload 5, 2) := by decide +kernel
theorem dX11_luck_44 : decode bX11_luck 44 = .ok (.iload_n 2, 1) := by decide +kernel
theorem dX11_luck_45 : decode bX11_luck 45 = .ok (.if_icmp .ge 39, 3) := by decide +kernel
theorem dX11_luck_48 : decode bX11_luck 48 = .ok (.aload_n 0, 1) := by decide +kernel
theorem dX11_luck_49 : decode bX11_luck 49 = .ok (.iload_n 1, 1) := by decide +kernel
theorem dX11_luck_50 : decode bX11_luck 50 = .ok (.i2l, 1) := by decide +kernel
theorem dX11_luck_51 : decode bX11_luck 51 = .ok (.iload 5, 2) := by decide +kernel
theorem dX11_luck_53 : decode bX11_luck 53 = .ok (.i2l, 1) := by decide +kernel
theorem dX11_luck_54 : decode bX11_luck 54 = .ok (.ladd, 1) := by decide +kernel
theorem dX11_luck_55 : decode bX11_luck 55 = .ok (.invokevirtual 446, 3) := by decide +kernel
theorem dX11_luck_58 : decode bX11_luck 58 = .ok (.iload 4, 2) := by decide +kernel
theorem dX11_luck_60 : decode bX11_luck 60 = .ok (.aload_n 0, 1) := by decide +kernel
theorem dX11_luck_61 : decode bX11_luck 61 = .ok (.getfield 71, 3) := by decide +kernel
theorem dX11_luck_64 : decode bX11_luck 64 = .ok (.iload_n 3, 1) := by decide +kernel
theorem dX11_luck_65 : decode bX11_luck 65 = .ok (.iaload, 1) := by decide +kernel
theorem dX11_luck_66 : decode bX11_luck 66 = .ok (.iconst (-1), 1) := by decide +kernel
theorem dX11_luck_67 : decode bX11_luck 67 = .ok (.if_icmp .ne 7, 3) := by decide +kernel
theorem dX11_luck_70 : decode bX11_luck 70 = .ok (.iconst 1, 1) := by decide +kernel
theorem dX11_luck_71 : decode bX11_luck 71 = .ok (.goto 4, 3) := by decide +kernel
theorem dX11_luck_74 : decode bX11_luck 74 = .ok (.iconst 0, 1) := by decide +kernel
theorem dX11_luck_75 : decode bX11_luck 75 = .ok (.iadd, 1) := by decide +kernel
theorem dX11_luck_76 : decode bX11_luck 76 = .ok (.istore 4, 2) := by decide +kernel
theorem dX11_luck_78 : decode bX11_luck 78 = .ok (.iinc 5 1, 3) := by decide +kernel
theorem dX11_luck_81 : decode bX11_luck 81 = .ok (.goto (-39), 3) := by decide +kernel
theorem dX11_luck_84 : decode bX11_luck 84 = .ok (.iload 4, 2) := by decide +kernel
theorem dX11_luck_86 : decode bX11_luck 86 = .ok (.ireturn, 1) := by decide +kernel
theorem dX11_does_0 : decode bX11_does 0 = .ok (.iconst 4, 1) := by decide +kernel
theorem dX11_does_1 : decode bX11_does 1 = .ok (.aload_n 0, 1) := by decide +kernel
theorem dX11_does_2 : decode bX11_does 2 = .ok (.getfield 34, 3) := by decide +kernel
theorem dX11_does_5 : decode bX11_does 5 = .ok (.bipush 7, 2) := by decide +kernel
theorem dX11_does_7 : decode bX11_does 7 = .ok (.iaload, 1) := by decide +kernel
theorem dX11_does_8 : decode bX11_does 8 = .ok (.imul, 1) := by decide +kernel
theorem dX11_does_9 : decode bX11_does 9 = .ok (.istore 5, 2) := by decide +kernel
theorem dX11_does_11 : decode bX11_does 11 = .ok (.aload_n 0, 1) := by decide +kernel
theorem dX11_does_12 : decode bX11_does 12 = .ok (.getfield 43, 3) := by decide +kernel
theorem dX11_does_15 : decode bX11_does 15 = .ok (.iload 5, 2) := by decide +kernel
theorem dX11_does_17 : decode bX11_does 17 = .ok (.iload_n 1, 1) := by decide +kernel
theorem dX11_does_18 : decode bX11_does 18 = .ok (.iastore, 1) := by decide +kernel
theorem dX11_does_19 : decode bX11_does 19 = .ok (.aload_n 0, 1) := by decide +kernel
theorem dX11_does_20 : decode bX11_does 20 = .ok (.getfield 43, 3) := by decide +kernel
theorem dX11_does_23 : decode bX11_does 23 = .ok (.iload 5, 2) := by decide +kernel
theorem dX11_does_25 : decode bX11_does 25 = .ok (.iconst 1, 1) := by decide +kernel
theorem dX11_does_26 : decode bX11_does 26 = .ok (.iadd, 1) := by decide +kernel
theorem dX11_does_27 : decode bX11_does 27 = .ok (.iload_n 2, 1) := by decide +kernel
theorem dX11_does_28 : decode bX11_does 28 = .ok (.iastore, 1) := by decide +kernel
theorem dX11_does_29 : decode bX11_does 29 = .ok (.aload_n 0, 1) := by decide +kernel
theorem dX11_does_30 : decode bX11_does 30 = .ok (.getfield 43, 3) := by decide +kernel
theorem dX11_does_33 : decode bX11_does 33 = .ok (.iload 5, 2) := by decide +kernel
theorem dX11_does_35 : decode bX11_does 35 = .ok (.iconst 2, 1) := by decide +kernel
theorem dX11_does_36 : decode bX11_does 36 = .ok (.iadd, 1) := by decide +kernel
theorem dX11_does_37 : decode bX11_does 37 = .ok (.iload_n 3, 1) := by decide +kernel
theorem dX11_does_38 : decode bX11_does 38 = .ok (.iastore, 1) := by decide +kernel
theorem dX11_does_39 : decode bX11_does 39 = .ok (.aload_n 0, 1) := by decide +kernel
theorem dX11_does_40 : decode bX11_does 40 = .ok (.getfield 43, 3) := by decide +kernel
theorem dX11_does_43 : decode bX11_does 43 = .ok (.iload 5, 2) := by decide +kernel
theorem dX11_does_45 : decode bX11_does 45 = .ok (.iconst 3, 1) := by decide +kernel
theorem dX11_does_46 : decode bX11_does 46 = .ok (.iadd, 1) := by decide +kernel
theorem dX11_does_47 : decode bX11_does 47 = .ok (.iload 4, 2) := by decide +kernel
theorem dX11_does_49 : decode bX11_does 49 = .ok (.iastore, 1) := by decide +kernel
theorem dX11_does_50 : decode bX11_does 50 = .ok (.aload_n 0, 1) := by decide +kernel
theorem dX11_does_51 : decode bX11_does 51 = .ok (.getfield 34, 3) := by decide +kernel
theorem dX11_does_54 : decode bX11_does 54 = .ok (.bipush 7, 2) := by decide +kernel
theorem dX11_does_56 : decode bX11_does 56 = .ok (.dup2, 1) := by decide +kernel
theorem dX11_does_57 : decode bX11_does 57 = .ok (.iaload, 1) := by decide +kernel
theorem dX11_does_58 : decode bX11_does 58 = .ok (.iconst 1, 1) := by decide +kernel
theorem dX11_does_59 : decode bX11_does 59 = .ok (.iadd, 1) := by decide +kernel
theorem dX11_does_60 : decode bX11_does 60 = .ok (.iastore, 1) := by decide +kernel
theorem dX11_does_61 : decode bX11_does 61 = .ok (.aload_n 0, 1) := by decide +kernel
theorem dX11_does_62 : decode bX11_does 62 = .ok (.invokevirtual 311, 3) := by decide +kernel
theorem dX11_does_65 : decode bX11_does 65 = .ok (.return_, 1) := by decide +kernel
theorem dX11_fires_0 : decode bX11_fires 0 = .ok (.aload_n 0, 1) := by decide +kernel
theorem dX11_fires_1 : decode bX11_fires 1 = .ok (.iconst 0, 1) := by decide +kernel
theorem dX11_fires_2 : decode bX11_fires 2 = .ok (.putfield 77, 3) := by decide +kernel
theorem dX11_fires_5 : decode bX11_fires 5 = .ok (.aload_n 0, 1) := by decide +kernel
theorem dX11_fires_6 : decode bX11_fires 6 = .ok (.iload_n 1, 1) := by decide +kernel
theorem dX11_fires_7 : decode bX11_fires 7 = .ok (.invokevirtual 302, 3) := by decide +kernel
theorem dX11_fires_10 : decode bX11_fires 10 = .ok (.ifCond .eq 24, 3) := by decide +kernel
theorem dX11_fires_13 : decode bX11_fires 13 = .ok (.iload_n 2, 1) := by decide +kernel
theorem dX11_fires_14 : decode bX11_fires 14 = .ok (.i2l, 1) := by decide +kernel
theorem dX11_fires_15 : decode bX11_fires 15 = .ok (.lconst 1, 1) := by decide +kernel
theorem dX11_fires_16 : decode bX11_fires 16 = .ok (.ldc2_w 451, 3) := by decide +kernel
theorem dX11_fires_19 : decode bX11_fires 19 = .ok (.invokestatic 82, 3) := by decide +kernel
theorem dX11_fires_22 : decode bX11_fires 22 = .ok (.ifCond .eq 12, 3) := by decide +kernel
theorem dX11_fires_25 : decode bX11_fires 25 = .ok (.aload_n 0, 1) := by decide +kernel
theorem dX11_fires_26 : decode bX11_fires 26 = .ok (.iload_n 3, 1) := by decide +kernel
theorem dX11_fires_27 : decode bX11_fires 27 = .ok (.i2l, 1) := by decide +kernel
theorem dX11_fires_28 : decode bX11_fires 28 = .ok (.invokevirtual 240, 3) := by decide +kernel
theorem dX11_fires_31 : decode bX11_fires 31 = .ok (.ifCond .ne 6, 3) := by decide +kernel
theorem dX11_fires_34 : decode bX11_fires 34 = .ok (.bipush (-2), 2) := by decide +kernel
theorem dX11_fires_36 : decode bX11_fires 36 = .ok (.ireturn, 1) := by decide +kernel
theorem dX11_fires_37 : decode bX11_fires 37 = .ok (.aload_n 0, 1) := by decide +kernel
theorem dX11_fires_38 : decode bX11_fires 38 = .ok (.getfield 34, 3) := by decide +kernel
theorem dX11_fires_41 : decode bX11_fires 41 = .ok (.bipush 7, 2) := by decide +kernel
theorem dX11_fires_43 : decode bX11_fires 43 = .ok (.iaload, 1) := by decide +kernel
theorem dX11_fires_44 : decode bX11_fires 44 = .ok (.bipush 30, 2) := by decide +kernel
theorem dX11_fires_46 : decode bX11_fires 46 = .ok (.if_icmp .ne 6, 3) := by decide +kernel
theorem dX11_fires_49 : decode bX11_fires 49 = .ok (.bipush (-5), 2) := by decide +kernel
theorem dX11_fires_51 : decode bX11_fires 51 = .ok (.ireturn, 1) := by decide +kernel
theorem dX11_fires_52 : decode bX11_fires 52 = .ok (.aload_n 0, 1) := by decide +kernel
theorem dX11_fires_53 : decode bX11_fires 53 = .ok (.iconst 0, 1) := by decide +kernel
theorem dX11_fires_54 : decode bX11_fires 54 = .ok (.iload_n 1, 1) := by decide +kernel
theorem dX11_fires_55 : decode bX11_fires 55 = .ok (.iload_n 2, 1) := by decide +kernel
theorem dX11_fires_56 : decode bX11_fires 56 = .ok (.iload_n 3, 1) := by decide +kernel
theorem dX11_fires_57 : decode bX11_fires 57 = .ok (.invokevirtual 453, 3) := by decide +kernel
theorem dX11_fires_60 : decode bX11_fires 60 = .ok (.aload_n 0, 1) := by decide +kernel
theorem dX11_fires_61 : decode bX11_fires 61 = .ok (.invokevirtual 323, 3) := by decide +kernel
theorem dX11_fires_64 : decode bX11_fires 64 = .ok (.invokestatic 335, 3) := by decide +kernel
theorem dX11_fires_67 : decode bX11_fires 67 = .ok (.ireturn, 1) := by decide +kernel
theorem dX11_gusts_0 : decode bX11_gusts 0 = .ok (.aload_n 0, 1) := by decide +kernel
theorem dX11_gusts_1 : decode bX11_gusts 1 = .ok (.iconst 0, 1) := by decide +kernel
theorem dX11_gusts_2 : decode bX11_gusts 2 = .ok (.putfield 77, 3) := by decide +kernel
theorem dX11_gusts_5 : decode bX11_gusts 5 = .ok (.aload_n 0, 1) := by decide +kernel
theorem dX11_gusts_6 : decode bX11_gusts 6 = .ok (.iload_n 1, 1) := by decide +kernel
theorem dX11_gusts_7 : decode bX11_gusts 7 = .ok (.invokevirtual 346, 3) := by decide +kernel
theorem dX11_gusts_10 : decode bX11_gusts 10 = .ok (.ifCond .ne 6, 3) := by decide +kernel
theorem dX11_gusts_13 : decode bX11_gusts 13 = .ok (.bipush (-2), 2) := by decide +kernel
theorem dX11_gusts_15 : decode bX11_gusts 15 = .ok (.ireturn, 1) := by decide +kernel
theorem dX11_gusts_16 : decode bX11_gusts 16 = .ok (.aload_n 0, 1) := by decide +kernel
theorem dX11_gusts_17 : decode bX11_gusts 17 = .ok (.getfield 34, 3) := by decide +kernel
theorem dX11_gusts_20 : decode bX11_gusts 20 = .ok (.bipush 7, 2) := by decide +kernel
theorem dX11_gusts_22 : decode bX11_gusts 22 = .ok (.iaload, 1) := by decide +kernel
theorem dX11_gusts_23 : decode bX11_gusts 23 = .ok (.bipush 30, 2) := by decide +kernel
theorem dX11_gusts_25 : decode bX11_gusts 25 = .ok (.if_icmp .ne 6, 3) := by decide +kernel
theorem dX11_gusts_28 : decode bX11_gusts 28 = .ok (.bipush (-5), 2) := by decide +kernel
theorem dX11_gusts_30 : decode bX11_gusts 30 = .ok (.ireturn, 1) := by decide +kernel
theorem dX11_gusts_31 : decode bX11_gusts 31 = .ok (.aload_n 0, 1) := by decide +kernel
theorem dX11_gusts_32 : decode bX11_gusts 32 = .ok (.iconst 1, 1) := by decide +kernel
theorem dX11_gusts_33 : decode bX11_gusts 33 = .ok (.iconst (-1), 1) := by decide +kernel
theorem dX11_gusts_34 : decode bX11_gusts 34 = .ok (.iconst 0, 1) := by decide +kernel
theorem dX11_gusts_35 : decode bX11_gusts 35 = .ok (.iload_n 1, 1) := by decide +kernel
theorem dX11_gusts_36 : decode bX11_gusts 36 = .ok (.invokevirtual 453, 3) := by decide +kernel
theorem dX11_gusts_39 : decode bX11_gusts 39 = .ok (.aload_n 0, 1) := by decide +kernel
theorem dX11_gusts_40 : decode bX11_gusts 40 = .ok (.invokevirtual 323, 3) := by decide +kernel
theorem dX11_gusts_43 : decode bX11_gusts 43 = .ok (.invokestatic 335, 3) := by decide +kernel
theorem dX11_gusts_46 : decode bX11_gusts 46 = .ok (.ireturn, 1) := by decide +kernel
theorem dX11_undo_0 : decode bX11_undo 0 = .ok (.aload_n 0, 1) := by decide +kernel
theorem dX11_undo_1 : decode bX11_undo 1 = .ok (.iconst 0, 1) := by decide +kernel
theorem dX11_undo_2 : decode bX11_undo 2 = .ok (.putfield 77, 3) := by decide +kernel
theorem dX11_undo_5 : decode bX11_undo 5 = .ok (.aload_n 0, 1) := by decide +kernel
theorem dX11_undo_6 : decode bX11_undo 6 = .ok (.invokevirtual 231, 3) := by decide +kernel
theorem dX11_undo_9 : decode bX11_undo 9 = .ok (.ifCond .ne 6, 3) := by decide +kernel
theorem dX11_undo_12 : decode bX11_undo 12 = .ok (.bipush (-2), 2) := by decide +kernel
theorem dX11_undo_14 : decode bX11_undo 14 = .ok (.ireturn, 1) := by decide +kernel
theorem dX11_undo_15 : decode bX11_undo 15 = .ok (.aload_n 0, 1) := by decide +kernel
theorem dX11_undo_16 : decode bX11_undo 16 = .ok (.getfield 34, 3) := by decide +kernel
theorem dX11_undo_19 : decode bX11_undo 19 = .ok (.bipush 7, 2) := by decide +kernel
theorem dX11_undo_21 : decode bX11_undo 21 = .ok (.iaload, 1) := by decide +kernel
theorem dX11_undo_22 : decode bX11_undo 22 = .ok (.ifCond .ne 6, 3) := by decide +kernel
theorem dX11_undo_25 : decode bX11_undo 25 = .ok (.bipush (-5), 2) := by decide +kernel
theorem dX11_undo_27 : decode bX11_undo 27 = .ok (.ireturn, 1) := by decide +kernel
theorem dX11_undo_28 : decode bX11_undo 28 = .ok (.aload_n 0, 1) := by decide +kernel
theorem dX11_undo_29 : decode bX11_undo 29 = .ok (.getfield 34, 3) := by decide +kernel
theorem dX11_undo_32 : decode bX11_undo 32 = .ok (.bipush 7, 2) := by decide +kernel
theorem dX11_undo_34 : decode bX11_undo 34 = .ok (.dup2, 1) := by decide +kernel
theorem dX11_undo_35 : decode bX11_undo 35 = .ok (.iaload, 1) := by decide +kernel
theorem dX11_undo_36 : decode bX11_undo 36 = .ok (.iconst 1, 1) := by decide +kernel
theorem dX11_undo_37 : decode bX11_undo 37 = .ok (.isub, 1) := by decide +kernel
theorem dX11_undo_38 : decode bX11_undo 38 = .ok (.iastore, 1) := by decide +kernel
theorem dX11_undo_39 : decode bX11_undo 39 = .ok (.aload_n 0, 1) := by decide +kernel
theorem dX11_undo_40 : decode bX11_undo 40 = .ok (.getfield 34, 3) := by decide +kernel
theorem dX11_undo_43 : decode bX11_undo 43 = .ok (.bipush 7, 2) := by decide +kernel
theorem dX11_undo_45 : decode bX11_undo 45 = .ok (.iaload, 1) := by decide +kernel
theorem dX11_undo_46 : decode bX11_undo 46 = .ok (.ireturn, 1) := by decide +kernel
theorem dX11_anew_0 : decode bX11_anew 0 = .ok (.aload_n 0, 1) := by decide +kernel
theorem dX11_anew_1 : decode bX11_anew 1 = .ok (.iconst 0, 1) := by decide +kernel
theorem dX11_anew_2 : decode bX11_anew 2 = .ok (.putfield 77, 3) := by decide +kernel
theorem dX11_anew_5 : decode bX11_anew 5 = .ok (.aload_n 0, 1) := by decide +kernel
theorem dX11_anew_6 : decode bX11_anew 6 = .ok (.invokevirtual 231, 3) := by decide +kernel
theorem dX11_anew_9 : decode bX11_anew 9 = .ok (.ifCond .ne 6, 3) := by decide +kernel
theorem dX11_anew_12 : decode bX11_anew 12 = .ok (.bipush (-2), 2) := by decide +kernel
theorem dX11_anew_14 : decode bX11_anew 14 = .ok (.ireturn, 1) := by decide +kernel
theorem dX11_anew_15 : decode bX11_anew 15 = .ok (.aload_n 0, 1) := by decide +kernel
theorem dX11_anew_16 : decode bX11_anew 16 = .ok (.getfield 34, 3) := by decide +kernel
theorem dX11_anew_19 : decode bX11_anew 19 = .ok (.bipush 7, 2) := by decide +kernel
theorem dX11_anew_21 : decode bX11_anew 21 = .ok (.iaload, 1) := by decide +kernel
theorem dX11_anew_22 : decode bX11_anew 22 = .ok (.istore_n 1, 1) := by decide +kernel
theorem dX11_anew_23 : decode bX11_anew 23 = .ok (.aload_n 0, 1) := by decide +kernel
theorem dX11_anew_24 : decode bX11_anew 24 = .ok (.getfield 34, 3) := by decide +kernel
theorem dX11_anew_27 : decode bX11_anew 27 = .ok (.bipush 7, 2) := by decide +kernel
theorem dX11_anew_29 : decode bX11_anew 29 = .ok (.iconst 0, 1) := by decide +kernel
theorem dX11_anew_30 : decode bX11_anew 30 = .ok (.iastore, 1) := by decide +kernel
theorem dX11_anew_31 : decode bX11_anew 31 = .ok (.iload_n 1, 1) := by decide +kernel
theorem dX11_anew_32 : decode bX11_anew 32 = .ok (.ireturn, 1) := by decide +kernel
theorem dX11_rate_0 : decode bX11_rate 0 = .ok (.aload_n 0, 1) := by decide +kernel
theorem dX11_rate_1 : decode bX11_rate 1 = .ok (.iconst 0, 1) := by decide +kernel
theorem dX11_rate_2 : decode bX11_rate 2 = .ok (.putfield 77, 3) := by decide +kernel
theorem dX11_rate_5 : decode bX11_rate 5 = .ok (.aload_n 0, 1) := by decide +kernel
theorem dX11_rate_6 : decode bX11_rate 6 = .ok (.iload_n 1, 1) := by decide +kernel
theorem dX11_rate_7 : decode bX11_rate 7 = .ok (.i2l, 1) := by decide +kernel
theorem dX11_rate_8 : decode bX11_rate 8 = .ok (.invokevirtual 237, 3) := by decide +kernel
theorem dX11_rate_11 : decode bX11_rate 11 = .ok (.ifCond .eq 15, 3) := by decide +kernel
theorem dX11_rate_14 : decode bX11_rate 14 = .ok (.iload_n 2, 1) := by decide +kernel
theorem dX11_rate_15 : decode bX11_rate 15 = .ok (.i2l, 1) := by decide +kernel
theorem dX11_rate_16 : decode bX11_rate 16 = .ok (.lconst 0, 1) := by decide +kernel
theorem dX11_rate_17 : decode bX11_rate 17 = .ok (.ldc2_w 457, 3) := by decide +kernel
theorem dX11_rate_20 : decode bX11_rate 20 = .ok (.invokestatic 82, 3) := by decide +kernel
theorem dX11_rate_23 : decode bX11_rate 23 = .ok (.ifCond .ne 6, 3) := by decide +kernel
theorem dX11_rate_26 : decode bX11_rate 26 = .ok (.bipush (-2), 2) := by decide +kernel
theorem dX11_rate_28 : decode bX11_rate 28 = .ok (.ireturn, 1) := by decide +kernel
theorem dX11_rate_29 : decode bX11_rate 29 = .ok (.aload_n 0, 1) := by decide +kernel
theorem dX11_rate_30 : decode bX11_rate 30 = .ok (.getfield 34, 3) := by decide +kernel
theorem dX11_rate_33 : decode bX11_rate 33 = .ok (.bipush 7, 2) := by decide +kernel
theorem dX11_rate_35 : decode bX11_rate 35 = .ok (.iaload, 1) := by decide +kernel
theorem dX11_rate_36 : decode bX11_rate 36 = .ok (.ifCond .le 6, 3) := by decide +kernel
theorem dX11_rate_39 : decode bX11_rate 39 = .ok (.bipush (-5), 2) := by decide +kernel
theorem dX11_rate_41 : decode bX11_rate 41 = .ok (.ireturn, 1) := by decide +kernel
theorem dX11_rate_42 : decode bX11_rate 42 = .ok (.aload_n 0, 1) := by decide +kernel
theorem dX11_rate_43 : decode bX11_rate 43 = .ok (.getfield 40, 3) := by decide +kernel
theorem dX11_rate_46 : decode bX11_rate 46 = .ok (.iconst 4, 1) := by decide +kernel
theorem dX11_rate_47 : decode bX11_rate 47 = .ok (.iload_n 1, 1) := by decide +kernel
theorem dX11_rate_48 : decode bX11_rate 48 = .ok (.imul, 1) := by decide +kernel
theorem dX11_rate_49 : decode bX11_rate 49 = .ok (.iconst 2, 1) := by decide +kernel
theorem dX11_rate_50 : decode bX11_rate 50 = .ok (.iadd, 1) := by decide +kernel
theorem dX11_rate_51 : decode bX11_rate 51 = .ok (.iaload, 1) := by decide +kernel
theorem dX11_rate_52 : decode bX11_rate 52 = .ok (.istore_n 3, 1) := by decide +kernel
theorem dX11_rate_53 : decode bX11_rate 53 = .ok (.aload_n 0, 1) := by decide +kernel
theorem dX11_rate_54 : decode bX11_rate 54 = .ok (.getfield 40, 3) := by decide +kernel
theorem dX11_rate_57 : decode bX11_rate 57 = .ok (.iconst 4, 1) := by decide +kernel
theorem dX11_rate_58 : decode bX11_rate 58 = .ok (.iload_n 1, 1) := by decide +kernel
theorem dX11_rate_59 : decode bX11_rate 59 = .ok (.imul, 1) := by decide +kernel
theorem dX11_rate_60 : decode bX11_rate 60 = .ok (.iconst 2, 1) := by decide +kernel
theorem dX11_rate_61 : decode bX11_rate 61 = .ok (.iadd, 1) := by decide +kernel
theorem dX11_rate_62 : decode bX11_rate 62 = .ok (.iload_n 2, 1) := by decide +kernel
theorem dX11_rate_63 : decode bX11_rate 63 = .ok (.iastore, 1) := by decide +kernel
theorem dX11_rate_64 : decode bX11_rate 64 = .ok (.iload_n 3, 1) := by decide +kernel
theorem dX11_rate_65 : decode bX11_rate 65 = .ok (.ireturn, 1) := by decide +kernel
theorem dX11_count_0 : decode bX11_count 0 = .ok (.aload_n 0, 1) := by decide +kernel
theorem dX11_count_1 : decode bX11_count 1 = .ok (.iconst 0, 1) := by decide +kernel
theorem dX11_count_2 : decode bX11_count 2 = .ok (.putfield 77, 3) := by decide +kernel
theorem dX11_count_5 : decode bX11_count 5 = .ok (.iload_n 1, 1) := by decide +kernel
theorem dX11_count_6 : decode bX11_count 6 = .ok (.i2l, 1) := by decide +kernel
theorem dX11_count_7 : decode bX11_count 7 = .ok (.lconst 0, 1) := by decide +kernel
theorem dX11_count_8 : decode bX11_count 8 = .ok (.ldc2_w 459, 3) := by decide +kernel
theorem dX11_count_11 : decode bX11_count 11 = .ok (.invokestatic 82, 3) := by decide +kernel
theorem dX11_count_14 : decode bX11_count 14 = .ok (.ifCond .eq 10, 3) := by decide +kernel
theorem dX11_count_17 : decode bX11_count 17 = .ok (.aload_n 0, 1) := by decide +kernel
theorem dX11_count_18 : decode bX11_count 18 = .ok (.getfield 34, 3) := by decide +kernel
theorem dX11_count_21 : decode bX11_count 21 = .ok (.iload_n 1, 1) := by decide +kernel
theorem dX11_count_22 : decode bX11_count 22 = .ok (.iaload, 1) := by decide +kernel
theorem dX11_count_23 : decode bX11_count 23 = .ok (.ireturn, 1) := by decide +kernel
theorem dX11_count_24 : decode bX11_count 24 = .ok (.iconst 0, 1) := by decide +kernel
theorem dX11_count_25 : decode bX11_count 25 = .ok (.istore_n 2, 1) := by decide +kernel
theorem dX11_count_26 : decode bX11_count 26 = .ok (.iload_n 1, 1) := by decide +kernel
theorem dX11_count_27 : decode bX11_count 27 = .ok (.tableswitch 70 8 10 #[25, 32, 37], 25) := by decide +kernel
theorem dX11_count_52 : decode bX11_count 52 = .ok (.aload_n 0, 1) := by decide +kernel
theorem dX11_count_53 : decode bX11_count 53 = .ok (.getfield 31, 3) := by decide +kernel
theorem dX11_count_56 : decode bX11_count 56 = .ok (.iconst 0, 1) := by decide +kernel
theorem dX11_count_57 : decode bX11_count 57 = .ok (.iaload, 1) := by decide +kernel
theorem dX11_count_58 : decode bX11_count 58 = .ok (.ireturn, 1) := by decide +kernel
theorem dX11_count_59 : decode bX11_count 59 = .ok (.aload_n 0, 1) := by decide +kernel
theorem dX11_count_60 : decode bX11_count 60 = .ok (.getfield 94, 3) := by decide +kernel
theorem dX11_count_63 : decode bX11_count 63 = .ok (.ireturn, 1) := by decide +kernel
theorem dX11_count_64 : decode bX11_count 64 = .ok (.iconst 0, 1) := by decide +kernel
theorem dX11_count_65 : decode bX11_count 65 = .ok (.istore_n 3, 1) := by decide +kernel
theorem dX11_count_66 : decode bX11_count 66 = .ok (.iload_n 3, 1) := by decide +kernel
theorem dX11_count_67 : decode bX11_count 67 = .ok (.iconst 4, 1) := by decide +kernel
theorem dX11_count_68 : decode bX11_count 68 = .ok (.if_icmp .ge 27, 3) := by decide +kernel
theorem dX11_count_71 : decode bX11_count 71 = .ok (.iload_n 2, 1) := by decide +kernel
theorem dX11_count_72 : decode bX11_count 72 = .ok (.aload_n 0, 1) := by decide +kernel
theorem dX11_count_73 : decode bX11_count 73 = .ok (.getfield 7, 3) := by decide +kernel
theorem dX11_count_76 : decode bX11_count 76 = .ok (.iload_n 3, 1) := by decide +kernel
theorem dX11_count_77 : decode bX11_count 77 = .ok (.iaload, 1) := by decide +kernel
theorem dX11_count_78 : decode bX11_count 78 = .ok (.iconst (-1), 1) := by decide +kernel
theorem dX11_count_79 : decode bX11_count 79 = .ok (.if_icmp .ne 7, 3) := by decide +kernel
theorem dX11_count_82 : decode bX11_count 82 = .ok (.iconst 0, 1) := by decide +kernel
theorem dX11_count_83 : decode bX11_count 83 = .ok (.goto 4, 3) := by decide +kernel
theorem dX11_count_86 : decode bX11_count 86 = .ok (.iconst 1, 1) := by decide +kernel
theorem dX11_count_87 : decode bX11_count 87 = .ok (.iadd, 1) := by decide +kernel
theorem dX11_count_88 : decode bX11_count 88 = .ok (.istore_n 2, 1) := by decide +kernel
theorem dX11_count_89 : decode bX11_count 89 = .ok (.iinc 3 1, 3) := by decide +kernel
theorem dX11_count_92 : decode bX11_count 92 = .ok (.goto (-26), 3) := by decide +kernel
theorem dX11_count_95 : decode bX11_count 95 = .ok (.iload_n 2, 1) := by decide +kernel
theorem dX11_count_96 : decode bX11_count 96 = .ok (.ireturn, 1) := by decide +kernel
theorem dX11_count_97 : decode bX11_count 97 = .ok (.iconst (-1), 1) := by decide +kernel
theorem dX11_count_98 : decode bX11_count 98 = .ok (.ireturn, 1) := by decide +kernel
theorem dX11_image_0 : decode bX11_image 0 = .ok (.aload_n 0, 1) := by decide +kernel
theorem dX11_image_1 : decode bX11_image 1 = .ok (.iconst 0, 1) := by decide +kernel
theorem dX11_image_2 : decode bX11_image 2 = .ok (.putfield 77, 3) := by decide +kernel
theorem dX11_image_5 : decode bX11_image 5 = .ok (.iload_n 1, 1) := by decide +kernel
theorem dX11_image_6 : decode bX11_image 6 = .ok (.i2l, 1) := by decide +kernel
theorem dX11_image_7 : decode bX11_image 7 = .ok (.lconst 0, 1) := by decide +kernel
theorem dX11_image_8 : decode bX11_image 8 = .ok (.ldc2_w 350, 3) := by decide +kernel
theorem dX11_image_11 : decode bX11_image 11 = .ok (.invokestatic 82, 3) := by decide +kernel
theorem dX11_image_14 : decode bX11_image 14 = .ok (.ifCond .ne 6, 3) := by decide +kernel
theorem dX11_image_17 : decode bX11_image 17 = .ok (.bipush (-2), 2) := by decide +kernel
theorem dX11_image_19 : decode bX11_image 19 = .ok (.ireturn, 1) := by decide +kernel
theorem dX11_image_20 : decode bX11_image 20 = .ok (.aload_n 0, 1) := by decide +kernel
theorem dX11_image_21 : decode bX11_image 21 = .ok (.iconst 0, 1) := by decide +kernel
theorem dX11_image_22 : decode bX11_image 22 = .ok (.iconst 1, 1) := by decide +kernel
theorem dX11_image_23 : decode bX11_image 23 = .ok (.iload_n 1, 1) := by decide +kernel
theorem dX11_image_24 : decode bX11_image 24 = .ok (.iadd, 1) := by decide +kernel
theorem dX11_image_25 : decode bX11_image 25 = .ok (.invokevirtual 220, 3) := by decide +kernel
theorem dX11_image_28 : decode bX11_image 28 = .ok (.aload_n 0, 1) := by decide +kernel
theorem dX11_image_29 : decode bX11_image 29 = .ok (.getfield 46, 3) := by decide +kernel
theorem dX11_image_32 : decode bX11_image 32 = .ok (.iload_n 1, 1) := by decide +kernel
theorem dX11_image_33 : decode bX11_image 33 = .ok (.iconst 1, 1) := by decide +kernel
theorem dX11_image_34 : decode bX11_image 34 = .ok (.bastore, 1) := by decide +kernel
theorem dX11_image_35 : decode bX11_image 35 = .ok (.iconst 0, 1) := by decide +kernel
theorem dX11_image_36 : decode bX11_image 36 = .ok (.ireturn, 1) := by decide +kernel
theorem dX11_back_0 : decode bX11_back 0 = .ok (.aload_n 0, 1) := by decide +kernel
theorem dX11_back_1 : decode bX11_back 1 = .ok (.iconst 0, 1) := by decide +kernel
theorem dX11_back_2 : decode bX11_back 2 = .ok (.putfield 77, 3) := by decide +kernel
theorem dX11_back_5 : decode bX11_back 5 = .ok (.iload_n 1, 1) := by decide +kernel
theorem dX11_back_6 : decode bX11_back 6 = .ok (.i2l, 1) := by decide +kernel
theorem dX11_back_7 : decode bX11_back 7 = .ok (.lconst 0, 1) := by decide +kernel
theorem dX11_back_8 : decode bX11_back 8 = .ok (.ldc2_w 350, 3) := by decide +kernel
theorem dX11_back_11 : decode bX11_back 11 = .ok (.invokestatic 82, 3) := by decide +kernel
theorem dX11_back_14 : decode bX11_back 14 = .ok (.ifCond .ne 6, 3) := by decide +kernel
theorem dX11_back_17 : decode bX11_back 17 = .ok (.bipush (-2), 2) := by decide +kernel
theorem dX11_back_19 : decode bX11_back 19 = .ok (.ireturn, 1) := by decide +kernel
theorem dX11_back_20 : decode bX11_back 20 = .ok (.aload_n 0, 1) := by decide +kernel
theorem dX11_back_21 : decode bX11_back 21 = .ok (.getfield 46, 3) := by decide +kernel
theorem dX11_back_24 : decode bX11_back 24 = .ok (.iload_n 1, 1) := by decide +kernel
theorem dX11_back_25 : decode bX11_back 25 = .ok (.baload, 1) := by decide +kernel
theorem dX11_back_26 : decode bX11_back 26 = .ok (.ifCond .ne 6, 3) := by decide +kernel
theorem dX11_back_29 : decode bX11_back 29 = .ok (.bipush (-6), 2) := by decide +kernel
theorem dX11_back_31 : decode bX11_back 31 = .ok (.ireturn, 1) := by decide +kernel
theorem dX11_back_32 : decode bX11_back 32 = .ok (.aload_n 0, 1) := by decide +kernel
theorem dX11_back_33 : decode bX11_back 33 = .ok (.iconst 1, 1) := by decide +kernel
theorem dX11_back_34 : decode bX11_back 34 = .ok (.iload_n 1, 1) := by decide +kernel
theorem dX11_back_35 : decode bX11_back 35 = .ok (.iadd, 1) := by decide +kernel
theorem dX11_back_36 : decode bX11_back 36 = .ok (.iconst 0, 1) := by decide +kernel
theorem dX11_back_37 : decode bX11_back 37 = .ok (.invokevirtual 220, 3) := by decide +kernel
theorem dX11_back_40 : decode bX11_back 40 = .ok (.iconst 0, 1) := by decide +kernel
theorem dX11_back_41 : decode bX11_back 41 = .ok (.ireturn, 1) := by decide +kernel
