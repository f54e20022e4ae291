theorem dX10_init_0 : decode bX10_init 0 = .ok (.aload_n 0, 1) := by decide +kernel
theorem dX10_init_1 : decode bX10_init 1 = .ok (.invokespecial 3, 3) := by decide +kernel
theorem dX10_init_4 : decode bX10_init 4 = .ok (.aload_n 0, 1) := by decide +kernel
theorem dX10_init_5 : decode bX10_init 5 = .ok (.iconst 3, 1) := by decide +kernel
theorem dX10_init_6 : decode bX10_init 6 = .ok (.anewarray 9, 3) := by decide +kernel
theorem dX10_init_9 : decode bX10_init 9 = .ok (.putfield 11, 3) := by decide +kernel
theorem dX10_init_12 : decode bX10_init 12 = .ok (.aload_n 0, 1) := by decide +kernel
theorem dX10_init_13 : decode bX10_init 13 = .ok (.iconst 3, 1) := by decide +kernel
theorem dX10_init_14 : decode bX10_init 14 = .ok (.newarray .boolean, 2) := by decide +kernel
theorem dX10_init_16 : decode bX10_init 16 = .ok (.putfield 15, 3) := by decide +kernel
theorem dX10_init_19 : decode bX10_init 19 = .ok (.aload_n 0, 1) := by decide +kernel
theorem dX10_init_20 : decode bX10_init 20 = .ok (.iconst 4, 1) := by decide +kernel
theorem dX10_init_21 : decode bX10_init 21 = .ok (.anewarray 19, 3) := by decide +kernel
theorem dX10_init_24 : decode bX10_init 24 = .ok (.putfield 21, 3) := by decide +kernel
theorem dX10_init_27 : decode bX10_init 27 = .ok (.aload_n 0, 1) := by decide +kernel
theorem dX10_init_28 : decode bX10_init 28 = .ok (.new 25, 3) := by decide +kernel
theorem dX10_init_31 : decode bX10_init 31 = .ok (.dup, 1) := by decide +kernel
theorem dX10_init_32 : decode bX10_init 32 = .ok (.invokespecial 27, 3) := by decide +kernel
theorem dX10_init_35 : decode bX10_init 35 = .ok (.putfield 28, 3) := by decide +kernel
theorem dX10_init_38 : decode bX10_init 38 = .ok (.aload_n 0, 1) := by decide +kernel
theorem dX10_init_39 : decode bX10_init 39 = .ok (.new 32, 3) := by decide +kernel
theorem dX10_init_42 : decode bX10_init 42 = .ok (.dup, 1) := by decide +kernel
theorem dX10_init_43 : decode bX10_init 43 = .ok (.aload_n 0, 1) := by decide +kernel
theorem dX10_init_44 : decode bX10_init 44 = .ok (.getfield 28, 3) := by decide +kernel
theorem dX10_init_47 : decode bX10_init 47 = .ok (.invokespecial 34, 3) := by decide +kernel
theorem dX10_init_50 : decode bX10_init 50 = .ok (.putfield 37, 3) := by decide +kernel
theorem dX10_init_53 : decode bX10_init 53 = .ok (.aload_n 0, 1) := by decide +kernel
theorem dX10_init_54 : decode bX10_init 54 = .ok (.new 41, 3) := by decide +kernel
theorem dX10_init_57 : decode bX10_init 57 = .ok (.dup, 1) := by decide +kernel
theorem dX10_init_58 : decode bX10_init 58 = .ok (.invokespecial 43, 3) := by decide +kernel
theorem dX10_init_61 : decode bX10_init 61 = .ok (.putfield 44, 3) := by decide +kernel
theorem dX10_init_64 : decode bX10_init 64 = .ok (.aload_n 0, 1) := by decide +kernel
theorem dX10_init_65 : decode bX10_init 65 = .ok (.new 9, 3) := by decide +kernel
theorem dX10_init_68 : decode bX10_init 68 = .ok (.dup, 1) := by decide +kernel
theorem dX10_init_69 : decode bX10_init 69 = .ok (.invokespecial 48, 3) := by decide +kernel
theorem dX10_init_72 : decode bX10_init 72 = .ok (.putfield 49, 3) := by decide +kernel
theorem dX10_init_75 : decode bX10_init 75 = .ok (.aload_n 0, 1) := by decide +kernel
theorem dX10_init_76 : decode bX10_init 76 = .ok (.new 53, 3) := by decide +kernel
theorem dX10_init_79 : decode bX10_init 79 = .ok (.dup, 1) := by decide +kernel
theorem dX10_init_80 : decode bX10_init 80 = .ok (.aload_n 0, 1) := by decide +kernel
theorem dX10_init_81 : decode bX10_init 81 = .ok (.getfield 49, 3) := by decide +kernel
theorem dX10_init_84 : decode bX10_init 84 = .ok (.invokespecial 55, 3) := by decide +kernel
theorem dX10_init_87 : decode bX10_init 87 = .ok (.putfield 58, 3) := by decide +kernel
theorem dX10_init_90 : decode bX10_init 90 = .ok (.aload_n 0, 1) := by decide +kernel
theorem dX10_init_91 : decode bX10_init 91 = .ok (.new 62, 3) := by decide +kernel
theorem dX10_init_94 : decode bX10_init 94 = .ok (.dup, 1) := by decide +kernel
theorem dX10_init_95 : decode bX10_init 95 = .ok (.aload_n 0, 1) := by decide +kernel
theorem dX10_init_96 : decode bX10_init 96 = .ok (.getfield 49, 3) := by decide +kernel
theorem dX10_init_99 : decode bX10_init 99 = .ok (.invokespecial 64, 3) := by decide +kernel
theorem dX10_init_102 : decode bX10_init 102 = .ok (.putfield 65, 3) := by decide +kernel
theorem dX10_init_105 : decode bX10_init 105 = .ok (.aload_n 0, 1) := by decide +kernel
theorem dX10_init_106 : decode bX10_init 106 = .ok (.new 69, 3) := by decide +kernel
theorem dX10_init_109 : decode bX10_init 109 = .ok (.dup, 1) := by decide +kernel
theorem dX10_init_110 : decode bX10_init 110 = .ok (.aload_n 0, 1) := by decide +kernel
theorem dX10_init_111 : decode bX10_init 111 = .ok (.getfield 49, 3) := by decide +kernel
theorem dX10_init_114 : decode bX10_init 114 = .ok (.invokespecial 71, 3) := by decide +kernel
theorem dX10_init_117 : decode bX10_init 117 = .ok (.putfield 72, 3) := by decide +kernel
theorem dX10_init_120 : decode bX10_init 120 = .ok (.iconst 0, 1) := by decide +kernel
theorem dX10_init_121 : decode bX10_init 121 = .ok (.istore_n 1, 1) := by decide +kernel
theorem dX10_init_122 : decode bX10_init 122 = .ok (.iload_n 1, 1) := by decide +kernel
theorem dX10_init_123 : decode bX10_init 123 = .ok (.iconst 3, 1) := by decide +kernel
theorem dX10_init_124 : decode bX10_init 124 = .ok (.if_icmp .ge 22, 3) := by decide +kernel
theorem dX10_init_127 : decode bX10_init 127 = .ok (.aload_n 0, 1) := by decide +kernel
theorem dX10_init_128 : decode bX10_init 128 = .ok (.getfield 11, 3) := by decide +kernel
theorem dX10_init_131 : decode bX10_init 131 = .ok (.iload_n 1, 1) := by decide +kernel
theorem dX10_init_132 : decode bX10_init 132 = .ok (.new 9, 3) := by decide +kernel
theorem dX10_init_135 : decode bX10_init 135 = .ok (.dup, 1) := by decide +kernel
theorem dX10_init_136 : decode bX10_init 136 = .ok (.invokespecial 48, 3) := by decide +kernel
theorem dX10_init_139 : decode bX10_init 139 = .ok (.aastore, 1) := by decide +kernel
theorem dX10_init_140 : decode bX10_init 140 = .ok (.iinc 1 1, 3) := by decide +kernel
theorem dX10_init_143 : decode bX10_init 143 = .ok (.goto (-21), 3) := by decide +kernel
theorem dX10_init_146 : decode bX10_init 146 = .ok (.iconst 0, 1) := by decide +kernel
theorem dX10_init_147 : decode bX10_init 147 = .ok (.istore_n 1, 1) := by decide +kernel
theorem dX10_init_148 : decode bX10_init 148 = .ok (.iload_n 1, 1) := by decide +kernel
theorem dX10_init_149 : decode bX10_init 149 = .ok (.iconst 4, 1) := by decide +kernel
theorem dX10_init_150 : decode bX10_init 150 = .ok (.if_icmp .ge 22, 3) := by decide +kernel
theorem dX10_init_153 : decode bX10_init 153 = .ok (.aload_n 0, 1) := by decide +kernel
theorem dX10_init_154 : decode bX10_init 154 = .ok (.getfield 21, 3) := by decide +kernel
theorem dX10_init_157 : decode bX10_init 157 = .ok (.iload_n 1, 1) := by decide +kernel
theorem dX10_init_158 : decode bX10_init 158 = .ok (.new 19, 3) := by decide +kernel
theorem dX10_init_161 : decode bX10_init 161 = .ok (.dup, 1) := by decide +kernel
theorem dX10_init_162 : decode bX10_init 162 = .ok (.invokespecial 76, 3) := by decide +kernel
theorem dX10_init_165 : decode bX10_init 165 = .ok (.aastore, 1) := by decide +kernel
theorem dX10_init_166 : decode bX10_init 166 = .ok (.iinc 1 1, 3) := by decide +kernel
theorem dX10_init_169 : decode bX10_init 169 = .ok (.goto (-21), 3) := by decide +kernel
theorem dX10_init_172 : decode bX10_init 172 = .ok (.aload_n 0, 1) := by decide +kernel
theorem dX10_init_173 : decode bX10_init 173 = .ok (.iconst 0, 1) := by decide +kernel
theorem dX10_init_174 : decode bX10_init 174 = .ok (.putfield 77, 3) := by decide +kernel
theorem dX10_init_177 : decode bX10_init 177 = .ok (.return_, 1) := by decide +kernel
theorem dX10_feed_0 : decode bX10_feed 0 = .ok (.aload_n 0, 1) := by decide +kernel
theorem dX10_feed_1 : decode bX10_feed 1 = .ok (.getfield 28, 3) := by decide +kernel
theorem dX10_feed_4 : decode bX10_feed 4 = .ok (.bipush 20, 2) := by decide +kernel
theorem dX10_feed_6 : decode bX10_feed 6 = .ok (.invokevirtual 81, 3) := by decide +kernel
theorem dX10_feed_9 : decode bX10_feed 9 = .ok (.ifCond .ne 5, 3) := by decide +kernel
theorem dX10_feed_12 : decode bX10_feed 12 = .ok (.iconst (-1), 1) := by decide +kernel
theorem dX10_feed_13 : decode bX10_feed 13 = .ok (.ireturn, 1) := by decide +kernel
theorem dX10_feed_14 : decode bX10_feed 14 = .ok (.aload_n 0, 1) := by decide +kernel
theorem dX10_feed_15 : decode bX10_feed 15 = .ok (.getfield 28, 3) := by decide +kernel
theorem dX10_feed_18 : decode bX10_feed 18 = .ok (.iload_n 1, 1) := by decide +kernel
theorem dX10_feed_19 : decode bX10_feed 19 = .ok (.invokevirtual 85, 3) := by decide +kernel
theorem dX10_feed_22 : decode bX10_feed 22 = .ok (.aload_n 0, 1) := by decide +kernel
theorem dX10_feed_23 : decode bX10_feed 23 = .ok (.getfield 28, 3) := by decide +kernel
theorem dX10_feed_26 : decode bX10_feed 26 = .ok (.iload_n 2, 1) := by decide +kernel
theorem dX10_feed_27 : decode bX10_feed 27 = .ok (.invokevirtual 85, 3) := by decide +kernel
theorem dX10_feed_30 : decode bX10_feed 30 = .ok (.aload_n 0, 1) := by decide +kernel
theorem dX10_feed_31 : decode bX10_feed 31 = .ok (.getfield 28, 3) := by decide +kernel
theorem dX10_feed_34 : decode bX10_feed 34 = .ok (.iload_n 3, 1) := by decide +kernel
theorem dX10_feed_35 : decode bX10_feed 35 = .ok (.invokevirtual 85, 3) := by decide +kernel
theorem dX10_feed_38 : decode bX10_feed 38 = .ok (.aload_n 0, 1) := by decide +kernel
theorem dX10_feed_39 : decode bX10_feed 39 = .ok (.getfield 28, 3) := by decide +kernel
theorem dX10_feed_42 : decode bX10_feed 42 = .ok (.iload 4, 2) := by decide +kernel
theorem dX10_feed_44 : decode bX10_feed 44 = .ok (.invokevirtual 85, 3) := by decide +kernel
theorem dX10_feed_47 : decode bX10_feed 47 = .ok (.aload_n 0, 1) := by decide +kernel
theorem dX10_feed_48 : decode bX10_feed 48 = .ok (.getfield 28, 3) := by decide +kernel
theorem dX10_feed_51 : decode bX10_feed 51 = .ok (.iload 5, 2) := by decide +kernel
theorem dX10_feed_53 : decode bX10_feed 53 = .ok (.invokevirtual 85, 3) := by decide +kernel
theorem dX10_feed_56 : decode bX10_feed 56 = .ok (.aload_n 0, 1) := by decide +kernel
theorem dX10_feed_57 : decode bX10_feed 57 = .ok (.getfield 28, 3) := by decide +kernel
theorem dX10_feed_60 : decode bX10_feed 60 = .ok (.getfield 89, 3) := by decide +kernel
theorem dX10_feed_63 : decode bX10_feed 63 = .ok (.ireturn, 1) := by decide +kernel
theorem dX10_end_0 : decode bX10_end 0 = .ok (.aload_n 0, 1) := by decide +kernel
theorem dX10_end_1 : decode bX10_end 1 = .ok (.getfield 28, 3) := by decide +kernel
theorem dX10_end_4 : decode bX10_end 4 = .ok (.iload_n 1, 1) := by decide +kernel
theorem dX10_end_5 : decode bX10_end 5 = .ok (.invokevirtual 93, 3) := by decide +kernel
theorem dX10_end_8 : decode bX10_end 8 = .ok (.ifCond .eq 7, 3) := by decide +kernel
theorem dX10_end_11 : decode bX10_end 11 = .ok (.iload_n 1, 1) := by decide +kernel
theorem dX10_end_12 : decode bX10_end 12 = .ok (.goto 4, 3) := by decide +kernel
theorem dX10_end_15 : decode bX10_end 15 = .ok (.iconst (-1), 1) := by decide +kernel
theorem dX10_end_16 : decode bX10_end 16 = .ok (.ireturn, 1) := by decide +kernel
theorem dX10_lehr_0 : decode bX10_lehr 0 = .ok (.aload_n 0, 1) := by decide +kernel
theorem dX10_lehr_1 : decode bX10_lehr 1 = .ok (.getfield 44, 3) := by decide +kernel
theorem dX10_lehr_4 : decode bX10_lehr 4 = .ok (.invokevirtual 96, 3) := by decide +kernel
theorem dX10_lehr_7 : decode bX10_lehr 7 = .ok (.aload_n 0, 1) := by decide +kernel
theorem dX10_lehr_8 : decode bX10_lehr 8 = .ok (.getfield 37, 3) := by decide +kernel
theorem dX10_lehr_11 : decode bX10_lehr 11 = .ok (.aload_n 0, 1) := by decide +kernel
theorem dX10_lehr_12 : decode bX10_lehr 12 = .ok (.getfield 44, 3) := by decide +kernel
theorem dX10_lehr_15 : decode bX10_lehr 15 = .ok (.invokevirtual 99, 3) := by decide +kernel
theorem dX10_lehr_18 : decode bX10_lehr 18 = .ok (.aload_n 0, 1) := by decide +kernel
theorem dX10_lehr_19 : decode bX10_lehr 19 = .ok (.getfield 28, 3) := by decide +kernel
theorem dX10_lehr_22 : decode bX10_lehr 22 = .ok (.iconst 0, 1) := by decide +kernel
theorem dX10_lehr_23 : decode bX10_lehr 23 = .ok (.invokevirtual 93, 3) := by decide +kernel
theorem dX10_lehr_26 : decode bX10_lehr 26 = .ok (.pop, 1) := by decide +kernel
theorem dX10_lehr_27 : decode bX10_lehr 27 = .ok (.aload_n 0, 1) := by decide +kernel
theorem dX10_lehr_28 : decode bX10_lehr 28 = .ok (.getfield 37, 3) := by decide +kernel
theorem dX10_lehr_31 : decode bX10_lehr 31 = .ok (.getfield 103, 3) := by decide +kernel
theorem dX10_lehr_34 : decode bX10_lehr 34 = .ok (.ifCond .eq 6, 3) := by decide +kernel
theorem dX10_lehr_37 : decode bX10_lehr 37 = .ok (.bipush (-4), 2) := by decide +kernel
theorem dX10_lehr_39 : decode bX10_lehr 39 = .ok (.ireturn, 1) := by decide +kernel
theorem dX10_lehr_40 : decode bX10_lehr 40 = .ok (.aload_n 0, 1) := by decide +kernel
theorem dX10_lehr_41 : decode bX10_lehr 41 = .ok (.getfield 49, 3) := by decide +kernel
theorem dX10_lehr_44 : decode bX10_lehr 44 = .ok (.getfield 106, 3) := by decide +kernel
theorem dX10_lehr_47 : decode bX10_lehr 47 = .ok (.aload_n 0, 1) := by decide +kernel
theorem dX10_lehr_48 : decode bX10_lehr 48 = .ok (.getfield 44, 3) := by decide +kernel
theorem dX10_lehr_51 : decode bX10_lehr 51 = .ok (.invokevirtual 109, 3) := by decide +kernel
theorem dX10_lehr_54 : decode bX10_lehr 54 = .ok (.aload_n 0, 1) := by decide +kernel
theorem dX10_lehr_55 : decode bX10_lehr 55 = .ok (.getfield 49, 3) := by decide +kernel
theorem dX10_lehr_58 : decode bX10_lehr 58 = .ok (.getfield 112, 3) := by decide +kernel
theorem dX10_lehr_61 : decode bX10_lehr 61 = .ok (.invokevirtual 116, 3) := by decide +kernel
theorem dX10_lehr_64 : decode bX10_lehr 64 = .ok (.aload_n 0, 1) := by decide +kernel
theorem dX10_lehr_65 : decode bX10_lehr 65 = .ok (.iconst 0, 1) := by decide +kernel
theorem dX10_lehr_66 : decode bX10_lehr 66 = .ok (.putfield 77, 3) := by decide +kernel
theorem dX10_lehr_69 : decode bX10_lehr 69 = .ok (.aload_n 0, 1) := by decide +kernel
theorem dX10_lehr_70 : decode bX10_lehr 70 = .ok (.getfield 49, 3) := by decide +kernel
theorem dX10_lehr_73 : decode bX10_lehr 73 = .ok (.getfield 106, 3) := by decide +kernel
theorem dX10_lehr_76 : decode bX10_lehr 76 = .ok (.getfield 119, 3) := by decide +kernel
theorem dX10_lehr_79 : decode bX10_lehr 79 = .ok (.ireturn, 1) := by decide +kernel
theorem dX10_fault_0 : decode bX10_fault 0 = .ok (.iload_n 1, 1) := by decide +kernel
theorem dX10_fault_1 : decode bX10_fault 1 = .ok (.lookupswitch 43 #[(0, 27), (1, 35)], 27) := by decide +kernel
theorem dX10_fault_28 : decode bX10_fault 28 = .ok (.aload_n 0, 1) := by decide +kernel
theorem dX10_fault_29 : decode bX10_fault 29 = .ok (.getfield 37, 3) := by decide +kernel
theorem dX10_fault_32 : decode bX10_fault 32 = .ok (.getfield 103, 3) := by decide +kernel
theorem dX10_fault_35 : decode bX10_fault 35 = .ok (.ireturn, 1) := by decide +kernel
theorem dX10_fault_36 : decode bX10_fault 36 = .ok (.aload_n 0, 1) := by decide +kernel
theorem dX10_fault_37 : decode bX10_fault 37 = .ok (.getfield 37, 3) := by decide +kernel
theorem dX10_fault_40 : decode bX10_fault 40 = .ok (.getfield 122, 3) := by decide +kernel
theorem dX10_fault_43 : decode bX10_fault 43 = .ok (.ireturn, 1) := by decide +kernel
theorem dX10_fault_44 : decode bX10_fault 44 = .ok (.iconst (-1), 1) := by decide +kernel
theorem dX10_fault_45 : decode bX10_fault 45 = .ok (.ireturn, 1) := by decide +kernel
theorem dX10_zone_0 : decode bX10_zone 0 = .ok (.aload_n 0, 1) := by decide +kernel
theorem dX10_zone_1 : decode bX10_zone 1 = .ok (.getfield 49, 3) := by decide +kernel
theorem dX10_zone_4 : decode bX10_zone 4 = .ok (.getfield 106, 3) := by decide +kernel
theorem dX10_zone_7 : decode bX10_zone 7 = .ok (.iload_n 1, 1) := by decide +kernel
theorem dX10_zone_8 : decode bX10_zone 8 = .ok (.invokevirtual 125, 3) := by decide +kernel
theorem dX10_zone_11 : decode bX10_zone 11 = .ok (.ifCond .eq 18, 3) := by decide +kernel
theorem dX10_zone_14 : decode bX10_zone 14 = .ok (.aload_n 0, 1) := by decide +kernel
theorem dX10_zone_15 : decode bX10_zone 15 = .ok (.getfield 49, 3) := by decide +kernel
theorem dX10_zone_18 : decode bX10_zone 18 = .ok (.getfield 106, 3) := by decide +kernel
theorem dX10_zone_21 : decode bX10_zone 21 = .ok (.getfield 128, 3) := by decide +kernel
theorem dX10_zone_24 : decode bX10_zone 24 = .ok (.iload_n 1, 1) := by decide +kernel
theorem dX10_zone_25 : decode bX10_zone 25 = .ok (.iaload, 1) := by decide +kernel
theorem dX10_zone_26 : decode bX10_zone 26 = .ok (.goto 5, 3) := by decide +kernel
theorem dX10_zone_29 : decode bX10_zone 29 = .ok (.bipush (-2), 2) := by decide +kernel
theorem dX10_zone_31 : decode bX10_zone 31 = .ok (.ireturn, 1) := by decide +kernel
theorem dX10_piece_0 : decode bX10_piece 0 = .ok (.aload_n 0, 1) := by decide +kernel
theorem dX10_piece_1 : decode bX10_piece 1 = .ok (.getfield 49, 3) := by decide +kernel
theorem dX10_piece_4 : decode bX10_piece 4 = .ok (.getfield 106, 3) := by decide +kernel
theorem dX10_piece_7 : decode bX10_piece 7 = .ok (.iload_n 1, 1) := by decide +kernel
theorem dX10_piece_8 : decode bX10_piece 8 = .ok (.invokevirtual 132, 3) := by decide +kernel
theorem dX10_piece_11 : decode bX10_piece 11 = .ok (.ifCond .ne 6, 3) := by decide +kernel
theorem dX10_piece_14 : decode bX10_piece 14 = .ok (.bipush (-2), 2) := by decide +kernel
theorem dX10_piece_16 : decode bX10_piece 16 = .ok (.ireturn, 1) := by decide +kernel
theorem dX10_piece_17 : decode bX10_piece 17 = .ok (.iload_n 2, 1) := by decide +kernel
theorem dX10_piece_18 : decode bX10_piece 18 = .ok (.tableswitch 82 0 3 #[30, 43, 56, 69], 30) := by decide +kernel
theorem dX10_piece_48 : decode bX10_piece 48 = .ok (.aload_n 0, 1) := by decide +kernel
theorem dX10_piece_49 : decode bX10_piece 49 = .ok (.getfield 49, 3) := by decide +kernel
theorem dX10_piece_52 : decode bX10_piece 52 = .ok (.getfield 106, 3) := by decide +kernel
theorem dX10_piece_55 : decode bX10_piece 55 = .ok (.getfield 135, 3) := by decide +kernel
theorem dX10_piece_58 : decode bX10_piece 58 = .ok (.iload_n 1, 1) := by decide +kernel
theorem dX10_piece_59 : decode bX10_piece 59 = .ok (.iaload, 1) := by decide +kernel
theorem dX10_piece_60 : decode bX10_piece 60 = .ok (.ireturn, 1) := by decide +kernel
theorem dX10_piece_61 : decode bX10_piece 61 = .ok (.aload_n 0, 1) := by decide +kernel
theorem dX10_piece_62 : decode bX10_piece 62 = .ok (.getfield 49, 3) := by decide +kernel
theorem dX10_piece_65 : decode bX10_piece 65 = .ok (.getfield 106, 3) := by decide +kernel
theorem dX10_piece_68 : decode bX10_piece 68 = .ok (.getfield 138, 3) := by decide +kernel
theorem dX10_piece_71 : decode bX10_piece 71 = .ok (.iload_n 1, 1) := by decide +kernel
theorem dX10_piece_72 : decode bX10_piece 72 = .ok (.iaload, 1) := by decide +kernel
theorem dX10_piece_73 : decode bX10_piece 73 = .ok (.ireturn, 1) := by decide +kernel
theorem dX10_piece_74 : decode bX10_piece 74 = .ok (.aload_n 0, 1) := by decide +kernel
theorem dX10_piece_75 : decode bX10_piece 75 = .ok (.getfield 49, 3) := by decide +kernel
theorem dX10_piece_78 : decode bX10_piece 78 = .ok (.getfield 106, 3) := by decide +kernel
theorem dX10_piece_81 : decode bX10_piece 81 = .ok (.getfield 141, 3) := by decide +kernel
theorem dX10_piece_84 : decode bX10_piece 84 = .ok (.iload_n 1, 1) := by decide +kernel
theorem dX10_piece_85 : decode bX10_piece 85 = .ok (.iaload, 1) := by decide +kernel
theorem dX10_piece_86 : decode bX10_piece 86 = .ok (.ireturn, 1) := by decide +kernel
theorem dX10_piece_87 : decode bX10_piece 87 = .ok (.aload_n 0, 1) := by decide +kernel
theorem dX10_piece_88 : decode bX10_piece 88 = .ok (.getfield 49, 3) := by decide +kernel
theorem dX10_piece_91 : decode bX10_piece 91 = .ok (.getfield 106, 3) := by decide +kernel
theorem dX10_piece_94 : decode bX10_piece 94 = .ok (.getfield 144, 3) := by decide +kernel
theorem dX10_piece_97 : decode bX10_piece 97 = .ok (.iload_n 1, 1) := by decide +kernel
theorem dX10_piece_98 : decode bX10_piece 98 = .ok (.iaload, 1) := by decide +kernel
theorem dX10_piece_99 : decode bX10_piece 99 = .ok (.ireturn, 1) := by decide +kernel
theorem dX10_piece_100 : decode bX10_piece 100 = .ok (.bipush (-2), 2) := by decide +kernel
theorem dX10_piece_102 : decode bX10_piece 102 = .ok (.ireturn, 1) := by decide +kernel
theorem dX10_air_0 : decode bX10_air 0 = .ok (.aload_n 0, 1) := by decide +kernel
theorem dX10_air_1 : decode bX10_air 1 = .ok (.getfield 49, 3) := by decide +kernel
theorem dX10_air_4 : decode bX10_air 4 = .ok (.getfield 106, 3) := by decide +kernel
theorem dX10_air_7 : decode bX10_air 7 = .ok (.iload_n 1, 1) := by decide +kernel
theorem dX10_air_8 : decode bX10_air 8 = .ok (.invokevirtual 125, 3) := by decide +kernel
theorem dX10_air_11 : decode bX10_air 11 = .ok (.ifCond .eq 17, 3) := by decide +kernel
theorem dX10_air_14 : decode bX10_air 14 = .ok (.aload_n 0, 1) := by decide +kernel
theorem dX10_air_15 : decode bX10_air 15 = .ok (.getfield 49, 3) := by decide +kernel
theorem dX10_air_18 : decode bX10_air 18 = .ok (.getfield 106, 3) := by decide +kernel
theorem dX10_air_21 : decode bX10_air 21 = .ok (.iload_n 2, 1) := by decide +kernel
theorem dX10_air_22 : decode bX10_air 22 = .ok (.invokevirtual 147, 3) := by decide +kernel
theorem dX10_air_25 : decode bX10_air 25 = .ok (.ifCond .ne 6, 3) := by decide +kernel
theorem dX10_air_28 : decode bX10_air 28 = .ok (.bipush (-2), 2) := by decide +kernel
theorem dX10_air_30 : decode bX10_air 30 = .ok (.ireturn, 1) := by decide +kernel
theorem dX10_air_31 : decode bX10_air 31 = .ok (.aload_n 0, 1) := by decide +kernel
theorem dX10_air_32 : decode bX10_air 32 = .ok (.getfield 49, 3) := by decide +kernel
theorem dX10_air_35 : decode bX10_air 35 = .ok (.iload_n 1, 1) := by decide +kernel
theorem dX10_air_36 : decode bX10_air 36 = .ok (.iload_n 2, 1) := by decide +kernel
theorem dX10_air_37 : decode bX10_air 37 = .ok (.aload_n 0, 1) := by decide +kernel
theorem dX10_air_38 : decode bX10_air 38 = .ok (.getfield 49, 3) := by decide +kernel
theorem dX10_air_41 : decode bX10_air 41 = .ok (.getfield 112, 3) := by decide +kernel
theorem dX10_air_44 : decode bX10_air 44 = .ok (.getfield 150, 3) := by decide +kernel
theorem dX10_air_47 : decode bX10_air 47 = .ok (.invokevirtual 153, 3) := by decide +kernel
theorem dX10_air_50 : decode bX10_air 50 = .ok (.ireturn, 1) := by decide +kernel
theorem dX10_where_0 : decode bX10_where 0 = .ok (.aload_n 0, 1) := by decide +kernel
theorem dX10_where_1 : decode bX10_where 1 = .ok (.getfield 49, 3) := by decide +kernel
theorem dX10_where_4 : decode bX10_where 4 = .ok (.getfield 106, 3) := by decide +kernel
theorem dX10_where_7 : decode bX10_where 7 = .ok (.iload_n 1, 1) := by decide +kernel
theorem dX10_where_8 : decode bX10_where 8 = .ok (.invokevirtual 132, 3) := by decide +kernel
theorem dX10_where_11 : decode bX10_where 11 = .ok (.ifCond .eq 17, 3) := by decide +kernel
theorem dX10_where_14 : decode bX10_where 14 = .ok (.aload_n 0, 1) := by decide +kernel
theorem dX10_where_15 : decode bX10_where 15 = .ok (.getfield 49, 3) := by decide +kernel
theorem dX10_where_18 : decode bX10_where 18 = .ok (.getfield 106, 3) := by decide +kernel
theorem dX10_where_21 : decode bX10_where 21 = .ok (.iload_n 2, 1) := by decide +kernel
theorem dX10_where_22 : decode bX10_where 22 = .ok (.invokevirtual 147, 3) := by decide +kernel
theorem dX10_where_25 : decode bX10_where 25 = .ok (.ifCond .ne 6, 3) := by decide +kernel
theorem dX10_where_28 : decode bX10_where 28 = .ok (.bipush (-2), 2) := by decide +kernel
theorem dX10_where_30 : decode bX10_where 30 = .ok (.ireturn, 1) := by decide +kernel
theorem dX10_where_31 : decode bX10_where 31 = .ok (.aload_n 0, 1) := by decide +kernel
theorem dX10_where_32 : decode bX10_where 32 = .ok (.getfield 49, 3) := by decide +kernel
theorem dX10_where_35 : decode bX10_where 35 = .ok (.getfield 106, 3) := by decide +kernel
theorem dX10_where_38 : decode bX10_where 38 = .ok (.iload_n 1, 1) := by decide +kernel
theorem dX10_where_39 : decode bX10_where 39 = .ok (.iload_n 2, 1) := by decide +kernel
theorem dX10_where_40 : decode bX10_where 40 = .ok (.invokevirtual 157, 3) := by decide +kernel
theorem dX10_where_43 : decode bX10_where 43 = .ok (.ireturn, 1) := by decide +kernel
theorem dX10_inside_0 : decode bX10_inside 0 = .ok (.aload_n 0, 1) := by decide +kernel
theorem dX10_inside_1 : decode bX10_inside 1 = .ok (.getfield 49, 3) := by decide +kernel
theorem dX10_inside_4 : decode bX10_inside 4 = .ok (.getfield 106, 3) := by decide +kernel
theorem dX10_inside_7 : decode bX10_inside 7 = .ok (.iload_n 1, 1) := by decide +kernel
theorem dX10_inside_8 : decode bX10_inside 8 = .ok (.invokevirtual 125, 3) := by decide +kernel
theorem dX10_inside_11 : decode bX10_inside 11 = .ok (.ifCond .eq 17, 3) := by decide +kernel
theorem dX10_inside_14 : decode bX10_inside 14 = .ok (.aload_n 0, 1) := by decide +kernel
theorem dX10_inside_15 : decode bX10_inside 15 = .ok (.getfield 49, 3) := by decide +kernel
theorem dX10_inside_18 : decode bX10_inside 18 = .ok (.getfield 106, 3) := by decide +kernel
theorem dX10_inside_21 : decode bX10_inside 21 = .ok (.iload_n 2, 1) := by decide +kernel
theorem dX10_inside_22 : decode bX10_inside 22 = .ok (.invokevirtual 147, 3) := by decide +kernel
theorem dX10_inside_25 : decode bX10_inside 25 = .ok (.ifCond .ne 6, 3) := by decide +kernel
theorem dX10_inside_28 : decode bX10_inside 28 = .ok (.bipush (-2), 2) := by decide +kernel
theorem dX10_inside_30 : decode bX10_inside 30 = .ok (.ireturn, 1) := by decide +kernel
theorem dX10_inside_31 : decode bX10_inside 31 = .ok (.aload_n 0, 1) := by decide +kernel
theorem dX10_inside_32 : decode bX10_inside 32 = .ok (.getfield 49, 3) := by decide +kernel
theorem dX10_inside_35 : decode bX10_inside 35 = .ok (.getfield 106, 3) := by decide +kernel
theorem dX10_inside_38 : decode bX10_inside 38 = .ok (.iload_n 1, 1) := by decide +kernel
theorem dX10_inside_39 : decode bX10_inside 39 = .ok (.iload_n 2, 1) := by decide +kernel
theorem dX10_inside_40 : decode bX10_inside 40 = .ok (.invokevirtual 161, 3) := by decide +kernel
theorem dX10_inside_43 : decode bX10_inside 43 = .ok (.ireturn, 1) := by decide +kernel
theorem dX10_out_0 : decode bX10_out 0 = .ok (.aload_n 0, 1) := by decide +kernel
theorem dX10_out_1 : decode bX10_out 1 = .ok (.getfield 49, 3) := by decide +kernel
theorem dX10_out_4 : decode bX10_out 4 = .ok (.getfield 106, 3) := by decide +kernel
theorem dX10_out_7 : decode bX10_out 7 = .ok (.iload_n 1, 1) := by decide +kernel
theorem dX10_out_8 : decode bX10_out 8 = .ok (.invokevirtual 147, 3) := by decide +kernel
theorem dX10_out_11 : decode bX10_out 11 = .ok (.ifCond .eq 19, 3) := by decide +kernel
theorem dX10_out_14 : decode bX10_out 14 = .ok (.aload_n 0, 1) := by decide +kernel
theorem dX10_out_15 : decode bX10_out 15 = .ok (.getfield 49, 3) := by decide +kernel
theorem dX10_out_18 : decode bX10_out 18 = .ok (.getfield 106, 3) := by decide +kernel
theorem dX10_out_21 : decode bX10_out 21 = .ok (.bipush 10, 2) := by decide +kernel
theorem dX10_out_23 : decode bX10_out 23 = .ok (.iload_n 1, 1) := by decide +kernel
theorem dX10_out_24 : decode bX10_out 24 = .ok (.invokevirtual 161, 3) := by decide +kernel
theorem dX10_out_27 : decode bX10_out 27 = .ok (.goto 5, 3) := by decide +kernel
theorem dX10_out_30 : decode bX10_out 30 = .ok (.bipush (-2), 2) := by decide +kernel
theorem dX10_out_32 : decode bX10_out 32 = .ok (.ireturn, 1) := by decide +kernel
theorem dX10_leaves_0 : decode bX10_leaves 0 = .ok (.aload_n 0, 1) := by decide +kernel
theorem dX10_leaves_1 : decode bX10_leaves 1 = .ok (.getfield 49, 3) := by decide +kernel
theorem dX10_leaves_4 : decode bX10_leaves 4 = .ok (.getfield 106, 3) := by decide +kernel
theorem dX10_leaves_7 : decode bX10_leaves 7 = .ok (.iload_n 1, 1) := by decide +kernel
theorem dX10_leaves_8 : decode bX10_leaves 8 = .ok (.invokevirtual 132, 3) := by decide +kernel
theorem dX10_leaves_11 : decode bX10_leaves 11 = .ok (.ifCond .eq 17, 3) := by decide +kernel
theorem dX10_leaves_14 : decode bX10_leaves 14 = .ok (.aload_n 0, 1) := by decide +kernel
theorem dX10_leaves_15 : decode bX10_leaves 15 = .ok (.getfield 49, 3) := by decide +kernel
theorem dX10_leaves_18 : decode bX10_leaves 18 = .ok (.getfield 106, 3) := by decide +kernel
theorem dX10_leaves_21 : decode bX10_leaves 21 = .ok (.iload_n 1, 1) := by decide +kernel
theorem dX10_leaves_22 : decode bX10_leaves 22 = .ok (.invokevirtual 164, 3) := by decide +kernel
theorem dX10_leaves_25 : decode bX10_leaves 25 = .ok (.goto 5, 3) := by decide +kernel
theorem dX10_leaves_28 : decode bX10_leaves 28 = .ok (.bipush (-2), 2) := by decide +kernel
theorem dX10_leaves_30 : decode bX10_leaves 30 = .ok (.ireturn, 1) := by decide +kernel
theorem dX10_skin_0 : decode bX10_skin 0 = .ok (.aload_n 0, 1) := by decide +kernel
theorem dX10_skin_1 : decode bX10_skin 1 = .ok (.iconst 0, 1) := by decide +kernel
theorem dX10_skin_2 : decode bX10_skin 2 = .ok (.iload_n 1, 1) := by decide +kernel
theorem dX10_skin_3 : decode bX10_skin 3 = .ok (.iload_n 2, 1) := by decide +kernel
theorem dX10_skin_4 : decode bX10_skin 4 = .ok (.invokevirtual 168, 3) := by decide +kernel
theorem dX10_skin_7 : decode bX10_skin 7 = .ok (.ireturn, 1) := by decide +kernel
theorem dX10_core_0 : decode bX10_core 0 = .ok (.aload_n 0, 1) := by decide +kernel
theorem dX10_core_1 : decode bX10_core 1 = .ok (.iconst 1, 1) := by decide +kernel
theorem dX10_core_2 : decode bX10_core 2 = .ok (.iload_n 1, 1) := by decide +kernel
theorem dX10_core_3 : decode bX10_core 3 = .ok (.iload_n 2, 1) := by decide +kernel
theorem dX10_core_4 : decode bX10_core 4 = .ok (.invokevirtual 168, 3) := by decide +kernel
theorem dX10_core_7 : decode bX10_core 7 = .ok (.ireturn, 1) := by decide +kernel
theorem dX10_strain_0 : decode bX10_strain 0 = .ok (.aload_n 0, 1) := by decide +kernel
theorem dX10_strain_1 : decode bX10_strain 1 = .ok (.iconst 2, 1) := by decide +kernel
theorem dX10_strain_2 : decode bX10_strain 2 = .ok (.iload_n 1, 1) := by decide +kernel
theorem dX10_strain_3 : decode bX10_strain 3 = .ok (.iload_n 2, 1) := by decide +kernel
theorem dX10_strain_4 : decode bX10_strain 4 = .ok (.invokevirtual 168, 3) := by decide +kernel
theorem dX10_strain_7 : decode bX10_strain 7 = .ok (.ireturn, 1) := by decide +kernel
theorem dX10_ofPieceAt_0 : decode bX10_ofPieceAt 0 = .ok (.aload_n 0, 1) := by decide +kernel
theorem dX10_ofPieceAt_1 : decode bX10_ofPieceAt 1 = .ok (.getfield 49, 3) := by decide +kernel
theorem dX10_ofPieceAt_4 : decode bX10_ofPieceAt 4 = .ok (.getfield 106, 3) := by decide +kernel
theorem dX10_ofPieceAt_7 : decode bX10_ofPieceAt 7 = .ok (.iload_n 2, 1) := by decide +kernel
theorem dX10_ofPieceAt_8 : decode bX10_ofPieceAt 8 = .ok (.invokevirtual 132, 3) := by decide +kernel
theorem dX10_ofPieceAt_11 : decode bX10_ofPieceAt 11 = .ok (.ifCond .eq 17, 3) := by decide +kernel
theorem dX10_ofPieceAt_14 : decode bX10_ofPieceAt 14 = .ok (.aload_n 0, 1) := by decide +kernel
theorem dX10_ofPieceAt_15 : decode bX10_ofPieceAt 15 = .ok (.getfield 49, 3) := by decide +kernel
theorem dX10_ofPieceAt_18 : decode bX10_ofPieceAt 18 = .ok (.getfield 106, 3) := by decide +kernel
theorem dX10_ofPieceAt_21 : decode bX10_ofPieceAt 21 = .ok (.iload_n 3, 1) := by decide +kernel
theorem dX10_ofPieceAt_22 : decode bX10_ofPieceAt 22 = .ok (.invokevirtual 147, 3) := by decide +kernel
theorem dX10_ofPieceAt_25 : decode bX10_ofPieceAt 25 = .ok (.ifCond .ne 6, 3) := by decide +kernel
theorem dX10_ofPieceAt_28 : decode bX10_ofPieceAt 28 = .ok (.bipush (-2), 2) := by decide +kernel
theorem dX10_ofPieceAt_30 : decode bX10_ofPieceAt 30 = .ok (.ireturn, 1) := by decide +kernel
theorem dX10_ofPieceAt_31 : decode bX10_ofPieceAt 31 = .ok (.aload_n 0, 1) := by decide +kernel
theorem dX10_ofPieceAt_32 : decode bX10_ofPieceAt 32 = .ok (.invokevirtual 171, 3) := by decide +kernel
theorem dX10_ofPieceAt_35 : decode bX10_ofPieceAt 35 = .ok (.iload_n 1, 1) := by decide +kernel
theorem dX10_ofPieceAt_36 : decode bX10_ofPieceAt 36 = .ok (.iload_n 2, 1) := by decide +kernel
theorem dX10_ofPieceAt_37 : decode bX10_ofPieceAt 37 = .ok (.iload_n 3, 1) := by decide +kernel
theorem dX10_ofPieceAt_38 : decode bX10_ofPieceAt 38 = .ok (.invokevirtual 175, 3) := by decide +kernel
theorem dX10_ofPieceAt_41 : decode bX10_ofPieceAt 41 = .ok (.ireturn, 1) := by decide +kernel
theorem dX10_peak_0 : decode bX10_peak 0 = .ok (.aload_n 0, 1) := by decide +kernel
theorem dX10_peak_1 : decode bX10_peak 1 = .ok (.getfield 49, 3) := by decide +kernel
theorem dX10_peak_4 : decode bX10_peak 4 = .ok (.getfield 106, 3) := by decide +kernel
theorem dX10_peak_7 : decode bX10_peak 7 = .ok (.iload_n 1, 1) := by decide +kernel
theorem dX10_peak_8 : decode bX10_peak 8 = .ok (.invokevirtual 132, 3) := by decide +kernel
theorem dX10_peak_11 : decode bX10_peak 11 = .ok (.ifCond .eq 14, 3) := by decide +kernel
theorem dX10_peak_14 : decode bX10_peak 14 = .ok (.aload_n 0, 1) := by decide +kernel
theorem dX10_peak_15 : decode bX10_peak 15 = .ok (.invokevirtual 171, 3) := by decide +kernel
theorem dX10_peak_18 : decode bX10_peak 18 = .ok (.iload_n 1, 1) := by decide +kernel
theorem dX10_peak_19 : decode bX10_peak 19 = .ok (.invokevirtual 178, 3) := by decide +kernel
theorem dX10_peak_22 : decode bX10_peak 22 = .ok (.goto 5, 3) := by decide +kernel
theorem dX10_peak_25 : decode bX10_peak 25 = .ok (.bipush (-2), 2) := by decide +kernel
theorem dX10_peak_27 : decode bX10_peak 27 = .ok (.ireturn, 1) := by decide +kernel
theorem dX10_when_0 : decode bX10_when 0 = .ok (.aload_n 0, 1) := by decide +kernel
theorem dX10_when_1 : decode bX10_when 1 = .ok (.getfield 49, 3) := by decide +kernel
theorem dX10_when_4 : decode bX10_when 4 = .ok (.getfield 106, 3) := by decide +kernel
theorem dX10_when_7 : decode bX10_when 7 = .ok (.iload_n 1, 1) := by decide +kernel
theorem dX10_when_8 : decode bX10_when 8 = .ok (.invokevirtual 132, 3) := by decide +kernel
theorem dX10_when_11 : decode bX10_when 11 = .ok (.ifCond .eq 14, 3) := by decide +kernel
theorem dX10_when_14 : decode bX10_when 14 = .ok (.aload_n 0, 1) := by decide +kernel
theorem dX10_when_15 : decode bX10_when 15 = .ok (.invokevirtual 171, 3) := by decide +kernel
theorem dX10_when_18 : decode bX10_when 18 = .ok (.iload_n 1, 1) := by decide +kernel
theorem dX10_when_19 : decode bX10_when 19 = .ok (.invokevirtual 181, 3) := by decide +kernel
theorem dX10_when_22 : decode bX10_when 22 = .ok (.goto 5, 3) := by decide +kernel
theorem dX10_when_25 : decode bX10_when 25 = .ok (.bipush (-2), 2) := by decide +kernel
theorem dX10_when_27 : decode bX10_when 27 = .ok (.ireturn, 1) := by decide +kernel
theorem dX10_frozen_0 : decode bX10_frozen 0 = .ok (.aload_n 0, 1) := by decide +kernel
theorem dX10_frozen_1 : decode bX10_frozen 1 = .ok (.getfield 49, 3) := by decide +kernel
theorem dX10_frozen_4 : decode bX10_frozen 4 = .ok (.getfield 106, 3) := by decide +kernel
theorem dX10_frozen_7 : decode bX10_frozen 7 = .ok (.iload_n 1, 1) := by decide +kernel
theorem dX10_frozen_8 : decode bX10_frozen 8 = .ok (.invokevirtual 132, 3) := by decide +kernel
theorem dX10_frozen_11 : decode bX10_frozen 11 = .ok (.ifCond .eq 15, 3) := by decide +kernel
theorem dX10_frozen_14 : decode bX10_frozen 14 = .ok (.aload_n 0, 1) := by decide +kernel
theorem dX10_frozen_15 : decode bX10_frozen 15 = .ok (.invokevirtual 171, 3) := by decide +kernel
theorem dX10_frozen_18 : decode bX10_frozen 18 = .ok (.getfield 184, 3) := by decide +kernel
theorem dX10_frozen_21 : decode bX10_frozen 21 = .ok (.iload_n 1, 1) := by decide +kernel
theorem dX10_frozen_22 : decode bX10_frozen 22 = .ok (.iaload, 1) := by decide +kernel
theorem dX10_frozen_23 : decode bX10_frozen 23 = .ok (.goto 5, 3) := by decide +kernel
theorem dX10_frozen_26 : decode bX10_frozen 26 = .ok (.bipush (-2), 2) := by decide +kernel
theorem dX10_frozen_28 : decode bX10_frozen 28 = .ok (.ireturn, 1) := by decide +kernel
theorem dX10_sets_0 : decode bX10_sets 0 = .ok (.aload_n 0, 1) := by decide +kernel
theorem dX10_sets_1 : decode bX10_sets 1 = .ok (.getfield 49, 3) := by decide +kernel
theorem dX10_sets_4 : decode bX10_sets 4 = .ok (.getfield 106, 3) := by decide +kernel
theorem dX10_sets_7 : decode bX10_sets 7 = .ok (.iload_n 1, 1) := by decide +kernel
theorem dX10_sets_8 : decode bX10_sets 8 = .ok (.invokevirtual 132, 3) := by decide +kernel
theorem dX10_sets_11 : decode bX10_sets 11 = .ok (.ifCond .eq 15, 3) := by decide +kernel
theorem dX10_sets_14 : decode bX10_sets 14 = .ok (.aload_n 0, 1) := by decide +kernel
theorem dX10_sets_15 : decode bX10_sets 15 = .ok (.invokevirtual 171, 3) := by decide +kernel
theorem dX10_sets_18 : decode bX10_sets 18 = .ok (.getfield 187, 3) := by decide +kernel
theorem dX10_sets_21 : decode bX10_sets 21 = .ok (.iload_n 1, 1) := by decide +kernel
theorem dX10_sets_22 : decode bX10_sets 22 = .ok (.iaload, 1) := by decide +kernel
theorem dX10_sets_23 : decode bX10_sets 23 = .ok (.goto 5, 3) := by decide +kernel
theorem dX10_sets_26 : decode bX10_sets 26 = .ok (.bipush (-2), 2) := by decide +kernel
theorem dX10_sets_28 : decode bX10_sets 28 = .ok (.ireturn, 1) := by decide +kernel
theorem dX10_cracks_0 : decode bX10_cracks 0 = .ok (.aload_n 0, 1) := by decide +kernel
theorem dX10_cracks_1 : decode bX10_cracks 1 = .ok (.getfield 49, 3) := by decide +kernel
theorem dX10_cracks_4 : decode bX10_cracks 4 = .ok (.getfield 106, 3) := by decide +kernel
theorem dX10_cracks_7 : decode bX10_cracks 7 = .ok (.iload_n 1, 1) := by decide +kernel
theorem dX10_cracks_8 : decode bX10_cracks 8 = .ok (.invokevirtual 132, 3) := by decide +kernel
theorem dX10_cracks_11 : decode bX10_cracks 11 = .ok (.ifCond .eq 15, 3) := by decide +kernel
theorem dX10_cracks_14 : decode bX10_cracks 14 = .ok (.aload_n 0, 1) := by decide +kernel
theorem dX10_cracks_15 : decode bX10_cracks 15 = .ok (.invokevirtual 171, 3) := by decide +kernel
theorem dX10_cracks_18 : decode bX10_cracks 18 = .ok (.getfield 190, 3) := by decide +kernel
theorem dX10_cracks_21 : decode bX10_cracks 21 = .ok (.iload_n 1, 1) := by decide +kernel
theorem dX10_cracks_22 : decode bX10_cracks 22 = .ok (.iaload, 1) := by decide +kernel
theorem dX10_cracks_23 : decode bX10_cracks 23 = .ok (.goto 5, 3) := by decide +kernel
theorem dX10_cracks_26 : decode bX10_cracks 26 = .ok (.bipush (-2), 2) := by decide +kernel
theorem dX10_cracks_28 : decode bX10_cracks 28 = .ok (.ireturn, 1) := by decide +kernel
theorem dX10_why_0 : decode bX10_why 0 = .ok (.aload_n 0, 1) := by decide +kernel
theorem dX10_why_1 : decode bX10_why 1 = .ok (.getfield 49, 3) := by decide +kernel
theorem dX10_why_4 : decode bX10_why 4 = .ok (.getfield 106, 3) := by decide +kernel
theorem dX10_why_7 : decode bX10_why 7 = .ok (.iload_n 1, 1) := by decide +kernel
theorem dX10_why_8 : decode bX10_why 8 = .ok (.invokevirtual 132, 3) := by decide +kernel
theorem dX10_why_11 : decode bX10_why 11 = .ok (.ifCond .eq 15, 3) := by decide +kernel
theorem dX10_why_14 : decode bX10_why 14 = .ok (.aload_n 0, 1) := by decide +kernel
theorem dX10_why_15 : decode bX10_why 15 = .ok (.invokevirtual 171, 3) := by decide +kernel
theorem dX10_why_18 : decode bX10_why 18 = .ok (.getfield 193, 3) := by decide +kernel
theorem dX10_why_21 : decode bX10_why 21 = .ok (.iload_n 1, 1) := by decide +kernel
theorem dX10_why_22 : decode bX10_why 22 = .ok (.iaload, 1) := by decide +kernel
theorem dX10_why_23 : decode bX10_why 23 = .ok (.goto 5, 3) := by decide +kernel
theorem dX10_why_26 : decode bX10_why 26 = .ok (.bipush (-2), 2) := by decide +kernel
theorem dX10_why_28 : decode bX10_why 28 = .ok (.ireturn, 1) := by decide +kernel
theorem dX10_whole_0 : decode bX10_whole 0 = .ok (.aload_n 0, 1) := by decide +kernel
theorem dX10_whole_1 : decode bX10_whole 1 = .ok (.getfield 49, 3) := by decide +kernel
theorem dX10_whole_4 : decode bX10_whole 4 = .ok (.getfield 106, 3) := by decide +kernel
theorem dX10_whole_7 : decode bX10_whole 7 = .ok (.iload_n 1, 1) := by decide +kernel
theorem dX10_whole_8 : decode bX10_whole 8 = .ok (.invokevirtual 147, 3) := by decide +kernel
theorem dX10_whole_11 : decode bX10_whole 11 = .ok (.ifCond .ne 6, 3) := by decide +kernel
theorem dX10_whole_14 : decode bX10_whole 14 = .ok (.bipush (-2), 2) := by decide +kernel
theorem dX10_whole_16 : decode bX10_whole 16 = .ok (.ireturn, 1) := by decide +kernel
theorem dX10_whole_17 : decode bX10_whole 17 = .ok (.aload_n 0, 1) := by decide +kernel
theorem dX10_whole_18 : decode bX10_whole 18 = .ok (.getfield 49, 3) := by decide +kernel
theorem dX10_whole_21 : decode bX10_whole 21 = .ok (.getfield 106, 3) := by decide +kernel
theorem dX10_whole_24 : decode bX10_whole 24 = .ok (.iload_n 1, 1) := by decide +kernel
theorem dX10_whole_25 : decode bX10_whole 25 = .ok (.invokevirtual 196, 3) := by decide +kernel
theorem dX10_whole_28 : decode bX10_whole 28 = .ok (.aload_n 0, 1) := by decide +kernel
theorem dX10_whole_29 : decode bX10_whole 29 = .ok (.invokevirtual 171, 3) := by decide +kernel
theorem dX10_whole_32 : decode bX10_whole 32 = .ok (.iload_n 1, 1) := by decide +kernel
theorem dX10_whole_33 : decode bX10_whole 33 = .ok (.invokevirtual 199, 3) := by decide +kernel
theorem dX10_whole_36 : decode bX10_whole 36 = .ok (.iand, 1) := by decide +kernel
theorem dX10_whole_37 : decode bX10_whole 37 = .ok (.ireturn, 1) := by decide +kernel
theorem dX10_sound_0 : decode bX10_sound 0 = .ok (.aload_n 0, 1) := by decide +kernel
theorem dX10_sound_1 : decode bX10_sound 1 = .ok (.getfield 49, 3) := by decide +kernel
theorem dX10_sound_4 : decode bX10_sound 4 = .ok (.getfield 106, 3) := by decide +kernel
theorem dX10_sound_7 : decode bX10_sound 7 = .ok (.invokevirtual 202, 3) := by decide +kernel
theorem dX10_sound_10 : decode bX10_sound 10 = .ok (.ifCond .eq 13, 3) := by decide +kernel
theorem dX10_sound_13 : decode bX10_sound 13 = .ok (.aload_n 0, 1) := by decide +kernel
theorem dX10_sound_14 : decode bX10_sound 14 = .ok (.invokevirtual 171, 3) := by decide +kernel
theorem dX10_sound_17 : decode bX10_sound 17 = .ok (.invokevirtual 206, 3) := by decide +kernel
theorem dX10_sound_20 : decode bX10_sound 20 = .ok (.goto 5, 3) := by decide +kernel
theorem dX10_sound_23 : decode bX10_sound 23 = .ok (.bipush (-2), 2) := by decide +kernel
theorem dX10_sound_25 : decode bX10_sound 25 = .ok (.ireturn, 1) := by decide +kernel
theorem dX10_good_0 : decode bX10_good 0 = .ok (.aload_n 0, 1) := by decide +kernel
theorem dX10_good_1 : decode bX10_good 1 = .ok (.getfield 49, 3) := by decide +kernel
theorem dX10_good_4 : decode bX10_good 4 = .ok (.getfield 106, 3) := by decide +kernel
theorem dX10_good_7 : decode bX10_good 7 = .ok (.invokevirtual 202, 3) := by decide +kernel
theorem dX10_good_10 : decode bX10_good 10 = .ok (.ifCond .ne 6, 3) := by decide +kernel
theorem dX10_good_13 : decode bX10_good 13 = .ok (.bipush (-2), 2) := by decide +kernel
theorem dX10_good_15 : decode bX10_good 15 = .ok (.ireturn, 1) := by decide +kernel
theorem dX10_good_16 : decode bX10_good 16 = .ok (.aload_n 0, 1) := by decide +kernel
theorem dX10_good_17 : decode bX10_good 17 = .ok (.getfield 49, 3) := by decide +kernel
theorem dX10_good_20 : decode bX10_good 20 = .ok (.getfield 106, 3) := by decide +kernel
theorem dX10_good_23 : decode bX10_good 23 = .ok (.bipush 10, 2) := by decide +kernel
theorem dX10_good_25 : decode bX10_good 25 = .ok (.aload_n 0, 1) := by decide +kernel
theorem dX10_good_26 : decode bX10_good 26 = .ok (.getfield 49, 3) := by decide +kernel
theorem dX10_good_29 : decode bX10_good 29 = .ok (.getfield 106, 3) := by decide +kernel
theorem dX10_good_32 : decode bX10_good 32 = .ok (.getfield 210, 3) := by decide +kernel
theorem dX10_good_35 : decode bX10_good 35 = .ok (.invokevirtual 161, 3) := by decide +kernel
theorem dX10_good_38 : decode bX10_good 38 = .ok (.aload_n 0, 1) := by decide +kernel
theorem dX10_good_39 : decode bX10_good 39 = .ok (.invokevirtual 171, 3) := by decide +kernel
theorem dX10_good_42 : decode bX10_good 42 = .ok (.invokevirtual 206, 3) := by decide +kernel
theorem dX10_good_45 : decode bX10_good 45 = .ok (.iand, 1) := by decide +kernel
theorem dX10_good_46 : decode bX10_good 46 = .ok (.ireturn, 1) := by decide +kernel
theorem dX10_tight_0 : decode bX10_tight 0 = .ok (.aload_n 0, 1) := by decide +kernel
theorem dX10_tight_1 : decode bX10_tight 1 = .ok (.getfield 49, 3) := by decide +kernel
theorem dX10_tight_4 : decode bX10_tight 4 = .ok (.getfield 106, 3) := by decide +kernel
theorem dX10_tight_7 : decode bX10_tight 7 = .ok (.iload_n 1, 1) := by decide +kernel
theorem dX10_tight_8 : decode bX10_tight 8 = .ok (.invokevirtual 147, 3) := by decide +kernel
theorem dX10_tight_11 : decode bX10_tight 11 = .ok (.ifCond .eq 15, 3) := by decide +kernel
theorem dX10_tight_14 : decode bX10_tight 14 = .ok (.aload_n 0, 1) := by decide +kernel
theorem dX10_tight_15 : decode bX10_tight 15 = .ok (.invokevirtual 171, 3) := by decide +kernel
theorem dX10_tight_18 : decode bX10_tight 18 = .ok (.iconst 2, 1) := by decide +kernel
theorem dX10_tight_19 : decode bX10_tight 19 = .ok (.iload_n 1, 1) := by decide +kernel
theorem dX10_tight_20 : decode bX10_tight 20 = .ok (.invokevirtual 213, 3) := by decide +kernel
theorem dX10_tight_23 : decode bX10_tight 23 = .ok (.goto 5, 3) := by decide +kernel
theorem dX10_tight_26 : decode bX10_tight 26 = .ok (.bipush (-2), 2) := by decide +kernel
theorem dX10_tight_28 : decode bX10_tight 28 = .ok (.ireturn, 1) := by decide +kernel
theorem dX10_hottest_0 : decode bX10_hottest 0 = .ok (.aload_n 0, 1) := by decide +kernel
theorem dX10_hottest_1 : decode bX10_hottest 1 = .ok (.getfield 49, 3) := by decide +kernel
theorem dX10_hottest_4 : decode bX10_hottest 4 = .ok (.getfield 106, 3) := by decide +kernel
theorem dX10_hottest_7 : decode bX10_hottest 7 = .ok (.iload_n 1, 1) := by decide +kernel
theorem dX10_hottest_8 : decode bX10_hottest 8 = .ok (.invokevirtual 147, 3) := by decide +kernel
theorem dX10_hottest_11 : decode bX10_hottest 11 = .ok (.ifCond .eq 15, 3) := by decide +kernel
theorem dX10_hottest_14 : decode bX10_hottest 14 = .ok (.aload_n 0, 1) := by decide +kernel
theorem dX10_hottest_15 : decode bX10_hottest 15 = .ok (.invokevirtual 171, 3) := by decide +kernel
theorem dX10_hottest_18 : decode bX10_hottest 18 = .ok (.iconst 0, 1) := by decide +kernel
theorem dX10_hottest_19 : decode bX10_hottest 19 = .ok (.iload_n 1, 1) := by decide +kernel
theorem dX10_hottest_20 : decode bX10_hottest 20 = .ok (.invokevirtual 213, 3) := by decide +kernel
theorem dX10_hottest_23 : decode bX10_hottest 23 = .ok (.goto 5, 3) := by decide +kernel
theorem dX10_hottest_26 : decode bX10_hottest 26 = .ok (.bipush (-2), 2) := by decide +kernel
theorem dX10_hottest_28 : decode bX10_hottest 28 = .ok (.ireturn, 1) := by decide +kernel
theorem dX10_glow_0 : decode bX10_glow 0 = .ok (.aload_n 0, 1) := by decide +kernel
theorem dX10_glow_1 : decode bX10_glow 1 = .ok (.getfield 49, 3) := by decide +kernel
theorem dX10_glow_4 : decode bX10_glow 4 = .ok (.getfield 106, 3) := by decide +kernel
theorem dX10_glow_7 : decode bX10_glow 7 = .ok (.iload_n 1, 1) := by decide +kernel
theorem dX10_glow_8 : decode bX10_glow 8 = .ok (.invokevirtual 147, 3) := by decide +kernel
theorem dX10_glow_11 : decode bX10_glow 11 = .ok (.ifCond .eq 14, 3) := by decide +kernel
theorem dX10_glow_14 : decode bX10_glow 14 = .ok (.aload_n 0, 1) := by decide +kernel
theorem dX10_glow_15 : decode bX10_glow 15 = .ok (.invokevirtual 171, 3) := by decide +kernel
theorem dX10_glow_18 : decode bX10_glow 18 = .ok (.iload_n 1, 1) := by decide +kernel
theorem dX10_glow_19 : decode bX10_glow 19 = .ok (.invokevirtual 216, 3) := by decide +kernel
theorem dX10_glow_22 : decode bX10_glow 22 = .ok (.goto 5, 3) := by decide +kernel
theorem dX10_glow_25 : decode bX10_glow 25 = .ok (.bipush (-2), 2) := by decide +kernel
theorem dX10_glow_27 : decode bX10_glow 27 = .ok (.ireturn, 1) := by decide +kernel
theorem dX10_worst_0 : decode bX10_worst 0 = .ok (.aload_n 0, 1) := by decide +kernel
theorem dX10_worst_1 : decode bX10_worst 1 = .ok (.getfield 49, 3) := by decide +kernel
theorem dX10_worst_4 : decode bX10_worst 4 = .ok (.getfield 106, 3) := by decide +kernel
theorem dX10_worst_7 : decode bX10_worst 7 = .ok (.invokevirtual 202, 3) := by decide +kernel
theorem dX10_worst_10 : decode bX10_worst 10 = .ok (.ifCond .eq 13, 3) := by decide +kernel
theorem dX10_worst_13 : decode bX10_worst 13 = .ok (.aload_n 0, 1) := by decide +kernel
theorem dX10_worst_14 : decode bX10_worst 14 = .ok (.invokevirtual 171, 3) := by decide +kernel
theorem dX10_worst_17 : decode bX10_worst 17 = .ok (.invokevirtual 219, 3) := by decide +kernel
theorem dX10_worst_20 : decode bX10_worst 20 = .ok (.goto 5, 3) := by decide +kernel
theorem dX10_worst_23 : decode bX10_worst 23 = .ok (.bipush (-2), 2) := by decide +kernel
theorem dX10_worst_25 : decode bX10_worst 25 = .ok (.ireturn, 1) := by decide +kernel
theorem dX10_sore_0 : decode bX10_sore 0 = .ok (.aload_n 0, 1) := by decide +kernel
theorem dX10_sore_1 : decode bX10_sore 1 = .ok (.getfield 49, 3) := by decide +kernel
theorem dX10_sore_4 : decode bX10_sore 4 = .ok (.getfield 106, 3) := by decide +kernel
theorem dX10_sore_7 : decode bX10_sore 7 = .ok (.invokevirtual 202, 3) := by decide +kernel
theorem dX10_sore_10 : decode bX10_sore 10 = .ok (.ifCond .eq 13, 3) := by decide +kernel
theorem dX10_sore_13 : decode bX10_sore 13 = .ok (.aload_n 0, 1) := by decide +kernel
theorem dX10_sore_14 : decode bX10_sore 14 = .ok (.invokevirtual 171, 3) := by decide +kernel
theorem dX10_sore_17 : decode bX10_sore 17 = .ok (.invokevirtual 222, 3) := by decide +kernel
theorem dX10_sore_20 : decode bX10_sore 20 = .ok (.goto 5, 3) := by decide +kernel
theorem dX10_sore_23 : decode bX10_sore 23 = .ok (.bipush (-2), 2) := by decide +kernel
theorem dX10_sore_25 : decode bX10_sore 25 = .ok (.ireturn, 1) := by decide +kernel
theorem dX10_tense_0 : decode bX10_tense 0 = .ok (.aload_n 0, 1) := by decide +kernel
theorem dX10_tense_1 : decode bX10_tense 1 = .ok (.getfield 49, 3) := by decide +kernel
theorem dX10_tense_4 : decode bX10_tense 4 = .ok (.getfield 106, 3) := by decide +kernel
theorem dX10_tense_7 : decode bX10_tense 7 = .ok (.iload_n 1, 1) := by decide +kernel
theorem dX10_tense_8 : decode bX10_tense 8 = .ok (.invokevirtual 132, 3) := by decide +kernel
theorem dX10_tense_11 : decode bX10_tense 11 = .ok (.ifCond .eq 14, 3) := by decide +kernel
theorem dX10_tense_14 : decode bX10_tense 14 = .ok (.aload_n 0, 1) := by decide +kernel
theorem dX10_tense_15 : decode bX10_tense 15 = .ok (.invokevirtual 171, 3) := by decide +kernel
theorem dX10_tense_18 : decode bX10_tense 18 = .ok (.iload_n 1, 1) := by decide +kernel
theorem dX10_tense_19 : decode bX10_tense 19 = .ok (.invokevirtual 225, 3) := by decide +kernel
theorem dX10_tense_22 : decode bX10_tense 22 = .ok (.goto 5, 3) := by decide +kernel
theorem dX10_tense_25 : decode bX10_tense 25 = .ok (.bipush (-2), 2) := by decide +kernel
theorem dX10_tense_27 : decode bX10_tense 27 = .ok (.ireturn, 1) := by decide +kernel
theorem dX10_warms_0 : decode bX10_warms 0 = .ok (.aload_n 0, 1) := by decide +kernel
theorem dX10_warms_1 : decode bX10_warms 1 = .ok (.getfield 49, 3) := by decide +kernel
theorem dX10_warms_4 : decode bX10_warms 4 = .ok (.getfield 106, 3) := by decide +kernel
theorem dX10_warms_7 : decode bX10_warms 7 = .ok (.iload_n 1, 1) := by decide +kernel
theorem dX10_warms_8 : decode bX10_warms 8 = .ok (.invokevirtual 132, 3) := by decide +kernel
theorem dX10_warms_11 : decode bX10_warms 11 = .ok (.ifCond .eq 14, 3) := by decide +kernel
theorem dX10_warms_14 : decode bX10_warms 14 = .ok (.aload_n 0, 1) := by decide +kernel
theorem dX10_warms_15 : decode bX10_warms 15 = .ok (.invokevirtual 171, 3) := by decide +kernel
theorem dX10_warms_18 : decode bX10_warms 18 = .ok (.iload_n 1, 1) := by decide +kernel
theorem dX10_warms_19 : decode bX10_warms 19 = .ok (.invokevirtual 228, 3) := by decide +kernel
theorem dX10_warms_22 : decode bX10_warms 22 = .ok (.goto 5, 3) := by decide +kernel
theorem dX10_warms_25 : decode bX10_warms 25 = .ok (.bipush (-2), 2) := by decide +kernel
theorem dX10_warms_27 : decode bX10_warms 27 = .ok (.ireturn, 1) := by decide +kernel
theorem dX10_cool_0 : decode bX10_cool 0 = .ok (.aload_n 0, 1) := by decide +kernel
theorem dX10_cool_1 : decode bX10_cool 1 = .ok (.getfield 49, 3) := by decide +kernel
theorem dX10_cool_4 : decode bX10_cool 4 = .ok (.getfield 106, 3) := by decide +kernel
theorem dX10_cool_7 : decode bX10_cool 7 = .ok (.iload_n 1, 1) := by decide +kernel
theorem dX10_cool_8 : decode bX10_cool 8 = .ok (.invokevirtual 132, 3) := by decide +kernel
theorem dX10_cool_11 : decode bX10_cool 11 = .ok (.ifCond .eq 14, 3) := by decide +kernel
theorem dX10_cool_14 : decode bX10_cool 14 = .ok (.iload_n 2, 1) := by decide +kernel
theorem dX10_cool_15 : decode bX10_cool 15 = .ok (.ifCond .lt 10, 3) := by decide +kernel
theorem dX10_cool_18 : decode bX10_cool 18 = .ok (.iload_n 2, 1) := by decide +kernel
theorem dX10_cool_19 : decode bX10_cool 19 = .ok (.sipush 600, 3) := by decide +kernel
theorem dX10_cool_22 : decode bX10_cool 22 = .ok (.if_icmp .le 6, 3) := by decide +kernel
theorem dX10_cool_25 : decode bX10_cool 25 = .ok (.bipush (-2), 2) := by decide +kernel
theorem dX10_cool_27 : decode bX10_cool 27 = .ok (.ireturn, 1) := by decide +kernel
theorem dX10_cool_28 : decode bX10_cool 28 = .ok (.aload_n 0, 1) := by decide +kernel
theorem dX10_cool_29 : decode bX10_cool 29 = .ok (.invokevirtual 171, 3) := by decide +kernel
theorem dX10_cool_32 : decode bX10_cool 32 = .ok (.iload_n 1, 1) := by decide +kernel
theorem dX10_cool_33 : decode bX10_cool 33 = .ok (.iload_n 2, 1) := by decide +kernel
theorem dX10_cool_34 : decode bX10_cool 34 = .ok (.invokevirtual 231, 3) := by decide +kernel
theorem dX10_cool_37 : decode bX10_cool 37 = .ok (.ireturn, 1) := by decide +kernel
theorem dX10_still_0 : decode bX10_still 0 = .ok (.aload_n 0, 1) := by decide +kernel
theorem dX10_still_1 : decode bX10_still 1 = .ok (.getfield 49, 3) := by decide +kernel
theorem dX10_still_4 : decode bX10_still 4 = .ok (.getfield 106, 3) := by decide +kernel
theorem dX10_still_7 : decode bX10_still 7 = .ok (.iload_n 1, 1) := by decide +kernel
theorem dX10_still_8 : decode bX10_still 8 = .ok (.invokevirtual 132, 3) := by decide +kernel
theorem dX10_still_11 : decode bX10_still 11 = .ok (.ifCond .eq 14, 3) := by decide +kernel
theorem dX10_still_14 : decode bX10_still 14 = .ok (.aload_n 0, 1) := by decide +kernel
theorem dX10_still_15 : decode bX10_still 15 = .ok (.invokevirtual 171, 3) := by decide +kernel
theorem dX10_still_18 : decode bX10_still 18 = .ok (.iload_n 1, 1) := by decide +kernel
theorem dX10_still_19 : decode bX10_still 19 = .ok (.invokevirtual 234, 3) := by decide +kernel
theorem dX10_still_22 : decode bX10_still 22 = .ok (.goto 5, 3) := by decide +kernel
theorem dX10_still_25 : decode bX10_still 25 = .ok (.bipush (-2), 2) := by decide +kernel
theorem dX10_still_27 : decode bX10_still 27 = .ok (.ireturn, 1) := by decide +kernel
theorem dX10_pairs_0 : decode bX10_pairs 0 = .ok (.aload_n 0, 1) := by decide +kernel
theorem dX10_pairs_1 : decode bX10_pairs 1 = .ok (.getfield 49, 3) := by decide +kernel
theorem dX10_pairs_4 : decode bX10_pairs 4 = .ok (.getfield 106, 3) := by decide +kernel
theorem dX10_pairs_7 : decode bX10_pairs 7 = .ok (.iload_n 1, 1) := by decide +kernel
theorem dX10_pairs_8 : decode bX10_pairs 8 = .ok (.invokevirtual 147, 3) := by decide +kernel
theorem dX10_pairs_11 : decode bX10_pairs 11 = .ok (.ifCond .ne 6, 3) := by decide +kernel
theorem dX10_pairs_14 : decode bX10_pairs 14 = .ok (.bipush (-2), 2) := by decide +kernel
theorem dX10_pairs_16 : decode bX10_pairs 16 = .ok (.ireturn, 1) := by decide +kernel
theorem dX10_pairs_17 : decode bX10_pairs 17 = .ok (.iconst 0, 1) := by decide +kernel
theorem dX10_pairs_18 : decode bX10_pairs 18 = .ok (.istore_n 2, 1) := by decide +kernel
theorem dX10_pairs_19 : decode bX10_pairs 19 = .ok (.iconst 0, 1) := by decide +kernel
theorem dX10_pairs_20 : decode bX10_pairs 20 = .ok (.istore_n 3, 1) := by decide +kernel
theorem dX10_pairs_21 : decode bX10_pairs 21 = .ok (.iload_n 3, 1) := by decide +kernel
theorem dX10_pairs_22 : decode bX10_pairs 22 = .ok (.aload_n 0, 1) := by decide +kernel
theorem dX10_pairs_23 : decode bX10_pairs 23 = .ok (.getfield 49, 3) := by decide +kernel
theorem dX10_pairs_26 : decode bX10_pairs 26 = .ok (.getfield 106, 3) := by decide +kernel
theorem dX10_pairs_29 : decode bX10_pairs 29 = .ok (.getfield 237, 3) := by decide +kernel
theorem dX10_pairs_32 : decode bX10_pairs 32 = .ok (.if_icmp .ge 38, 3) := by decide +kernel
theorem dX10_pairs_35 : decode bX10_pairs 35 = .ok (.aload_n 0, 1) := by decide +kernel
theorem dX10_pairs_36 : decode bX10_pairs 36 = .ok (.getfield 49, 3) := by decide +kernel
theorem dX10_pairs_39 : decode bX10_pairs 39 = .ok (.getfield 106, 3) := by decide +kernel
theorem dX10_pairs_42 : decode bX10_pairs 42 = .ok (.iload_n 3, 1) := by decide +kernel
theorem dX10_pairs_43 : decode bX10_pairs 43 = .ok (.iload_n 1, 1) := by decide +kernel
theorem dX10_pairs_44 : decode bX10_pairs 44 = .ok (.invokevirtual 161, 3) := by decide +kernel
theorem dX10_pairs_47 : decode bX10_pairs 47 = .ok (.invokestatic 240, 3) := by decide +kernel
theorem dX10_pairs_50 : decode bX10_pairs 50 = .ok (.istore 4, 2) := by decide +kernel
theorem dX10_pairs_52 : decode bX10_pairs 52 = .ok (.iload_n 2, 1) := by decide +kernel
theorem dX10_pairs_53 : decode bX10_pairs 53 = .ok (.iload 4, 2) := by decide +kernel
theorem dX10_pairs_55 : decode bX10_pairs 55 = .ok (.iload 4, 2) := by decide +kernel
theorem dX10_pairs_57 : decode bX10_pairs 57 = .ok (.iconst 1, 1) := by decide +kernel
theorem dX10_pairs_58 : decode bX10_pairs 58 = .ok (.isub, 1) := by decide +kernel
theorem dX10_pairs_59 : decode bX10_pairs 59 = .ok (.imul, 1) := by decide +kernel
theorem dX10_pairs_60 : decode bX10_pairs 60 = .ok (.iconst 2, 1) := by decide +kernel
theorem dX10_pairs_61 : decode bX10_pairs 61 = .ok (.idiv, 1) := by decide +kernel
theorem dX10_pairs_62 : decode bX10_pairs 62 = .ok (.iadd, 1) := by decide +kernel
theorem dX10_pairs_63 : decode bX10_pairs 63 = .ok (.istore_n 2, 1) := by decide +kernel
theorem dX10_pairs_64 : decode bX10_pairs 64 = .ok (.iinc 3 1, 3) := by decide +kernel
theorem dX10_pairs_67 : decode bX10_pairs 67 = .ok (.goto (-46), 3) := by decide +kernel
theorem dX10_pairs_70 : decode bX10_pairs 70 = .ok (.iload_n 2, 1) := by decide +kernel
theorem dX10_pairs_71 : decode bX10_pairs 71 = .ok (.ireturn, 1) := by decide +kernel
theorem dX10_crowd_0 : decode bX10_crowd 0 = .ok (.aload_n 0, 1) := by decide +kernel
theorem dX10_crowd_1 : decode bX10_crowd 1 = .ok (.getfield 49, 3) := by decide +kernel
theorem dX10_crowd_4 : decode bX10_crowd 4 = .ok (.getfield 106, 3) := by decide +kernel
theorem dX10_crowd_7 : decode bX10_crowd 7 = .ok (.invokevirtual 202, 3) := by decide +kernel
theorem dX10_crowd_10 : decode bX10_crowd 10 = .ok (.ifCond .ne 6, 3) := by decide +kernel
theorem dX10_crowd_13 : decode bX10_crowd 13 = .ok (.bipush (-2), 2) := by decide +kernel
theorem dX10_crowd_15 : decode bX10_crowd 15 = .ok (.ireturn, 1) := by decide +kernel
theorem dX10_crowd_16 : decode bX10_crowd 16 = .ok (.iconst 0, 1) := by decide +kernel
theorem dX10_crowd_17 : decode bX10_crowd 17 = .ok (.istore_n 1, 1) := by decide +kernel
theorem dX10_crowd_18 : decode bX10_crowd 18 = .ok (.iconst 0, 1) := by decide +kernel
theorem dX10_crowd_19 : decode bX10_crowd 19 = .ok (.istore_n 2, 1) := by decide +kernel
theorem dX10_crowd_20 : decode bX10_crowd 20 = .ok (.iload_n 2, 1) := by decide +kernel
theorem dX10_crowd_21 : decode bX10_crowd 21 = .ok (.aload_n 0, 1) := by decide +kernel
theorem dX10_crowd_22 : decode bX10_crowd 22 = .ok (.getfield 49, 3) := by decide +kernel
theorem dX10_crowd_25 : decode bX10_crowd 25 = .ok (.getfield 106, 3) := by decide +kernel
theorem dX10_crowd_28 : decode bX10_crowd 28 = .ok (.getfield 237, 3) := by decide +kernel
theorem dX10_crowd_31 : decode bX10_crowd 31 = .ok (.if_icmp .ge 51, 3) := by decide +kernel
theorem dX10_crowd_34 : decode bX10_crowd 34 = .ok (.iconst 0, 1) := by decide +kernel
theorem dX10_crowd_35 : decode bX10_crowd 35 = .ok (.istore_n 3, 1) := by decide +kernel
theorem dX10_crowd_36 : decode bX10_crowd 36 = .ok (.iload_n 3, 1) := by decide +kernel
theorem dX10_crowd_37 : decode bX10_crowd 37 = .ok (.aload_n 0, 1) := by decide +kernel
theorem dX10_crowd_38 : decode bX10_crowd 38 = .ok (.getfield 49, 3) := by decide +kernel
theorem dX10_crowd_41 : decode bX10_crowd 41 = .ok (.getfield 106, 3) := by decide +kernel
theorem dX10_crowd_44 : decode bX10_crowd 44 = .ok (.getfield 210, 3) := by decide +kernel
theorem dX10_crowd_47 : decode bX10_crowd 47 = .ok (.if_icmp .gt 29, 3) := by decide +kernel
theorem dX10_crowd_50 : decode bX10_crowd 50 = .ok (.iload_n 1, 1) := by decide +kernel
theorem dX10_crowd_51 : decode bX10_crowd 51 = .ok (.aload_n 0, 1) := by decide +kernel
theorem dX10_crowd_52 : decode bX10_crowd 52 = .ok (.getfield 49, 3) := by decide +kernel
theorem dX10_crowd_55 : decode bX10_crowd 55 = .ok (.getfield 106, 3) := by decide +kernel
theorem dX10_crowd_58 : decode bX10_crowd 58 = .ok (.iload_n 2, 1) := by decide +kernel
theorem dX10_crowd_59 : decode bX10_crowd 59 = .ok (.iload_n 3, 1) := by decide +kernel
theorem dX10_crowd_60 : decode bX10_crowd 60 = .ok (.invokevirtual 161, 3) := by decide +kernel
theorem dX10_crowd_63 : decode bX10_crowd 63 = .ok (.invokestatic 240, 3) := by decide +kernel
theorem dX10_crowd_66 : decode bX10_crowd 66 = .ok (.invokestatic 245, 3) := by decide +kernel
theorem dX10_crowd_69 : decode bX10_crowd 69 = .ok (.istore_n 1, 1) := by decide +kernel
theorem dX10_crowd_70 : decode bX10_crowd 70 = .ok (.iinc 3 1, 3) := by decide +kernel
theorem dX10_crowd_73 : decode bX10_crowd 73 = .ok (.goto (-37), 3) := by decide +kernel
theorem dX10_crowd_76 : decode bX10_crowd 76 = .ok (.iinc 2 1, 3) := by decide +kernel
theorem dX10_crowd_79 : decode bX10_crowd 79 = .ok (.goto (-59), 3) := by decide +kernel
theorem dX10_crowd_82 : decode bX10_crowd 82 = .ok (.iload_n 1, 1) := by decide +kernel
theorem dX10_crowd_83 : decode bX10_crowd 83 = .ok (.ireturn, 1) := by decide +kernel
theorem dX10_oven_0 : decode bX10_oven 0 = .ok (.aload_n 0, 1) := by decide +kernel
theorem dX10_oven_1 : decode bX10_oven 1 = .ok (.getfield 49, 3) := by decide +kernel
theorem dX10_oven_4 : decode bX10_oven 4 = .ok (.getfield 106, 3) := by decide +kernel
theorem dX10_oven_7 : decode bX10_oven 7 = .ok (.iload_n 1, 1) := by decide +kernel
theorem dX10_oven_8 : decode bX10_oven 8 = .ok (.invokevirtual 147, 3) := by decide +kernel
theorem dX10_oven_11 : decode bX10_oven 11 = .ok (.ifCond .ne 6, 3) := by decide +kernel
theorem dX10_oven_14 : decode bX10_oven 14 = .ok (.bipush (-2), 2) := by decide +kernel
theorem dX10_oven_16 : decode bX10_oven 16 = .ok (.ireturn, 1) := by decide +kernel
theorem dX10_oven_17 : decode bX10_oven 17 = .ok (.iconst (-1), 1) := by decide +kernel
theorem dX10_oven_18 : decode bX10_oven 18 = .ok (.istore_n 2, 1) := by decide +kernel
theorem dX10_oven_19 : decode bX10_oven 19 = .ok (.iconst 0, 1) := by decide +kernel
theorem dX10_oven_20 : decode bX10_oven 20 = .ok (.istore_n 3, 1) := by decide +kernel
theorem dX10_oven_21 : decode bX10_oven 21 = .ok (.iload_n 3, 1) := by decide +kernel
theorem dX10_oven_22 : decode bX10_oven 22 = .ok (.aload_n 0, 1) := by decide +kernel
theorem dX10_oven_23 : decode bX10_oven 23 = .ok (.getfield 49, 3) := by decide +kernel
theorem dX10_oven_26 : decode bX10_oven 26 = .ok (.getfield 106, 3) := by decide +kernel
theorem dX10_oven_29 : decode bX10_oven 29 = .ok (.getfield 237, 3) := by decide +kernel
theorem dX10_oven_32 : decode bX10_oven 32 = .ok (.if_icmp .ge 31, 3) := by decide +kernel
theorem dX10_oven_35 : decode bX10_oven 35 = .ok (.iload_n 2, 1) := by decide +kernel
theorem dX10_oven_36 : decode bX10_oven 36 = .ok (.iconst (-1), 1) := by decide +kernel
theorem dX10_oven_37 : decode bX10_oven 37 = .ok (.if_icmp .eq 18, 3) := by decide +kernel
theorem dX10_oven_40 : decode bX10_oven 40 = .ok (.aload_n 0, 1) := by decide +kernel
theorem dX10_oven_41 : decode bX10_oven 41 = .ok (.iload_n 3, 1) := by decide +kernel
theorem dX10_oven_42 : decode bX10_oven 42 = .ok (.iload_n 1, 1) := by decide +kernel
theorem dX10_oven_43 : decode bX10_oven 43 = .ok (.invokevirtual 250, 3) := by decide +kernel
theorem dX10_oven_46 : decode bX10_oven 46 = .ok (.aload_n 0, 1) := by decide +kernel
theorem dX10_oven_47 : decode bX10_oven 47 = .ok (.iload_n 2, 1) := by decide +kernel
theorem dX10_oven_48 : decode bX10_oven 48 = .ok (.iload_n 1, 1) := by decide +kernel
theorem dX10_oven_49 : decode bX10_oven 49 = .ok (.invokevirtual 250, 3) := by decide +kernel
theorem dX10_oven_52 : decode bX10_oven 52 = .ok (.if_icmp .le 5, 3) := by decide +kernel
theorem dX10_oven_55 : decode bX10_oven 55 = .ok (.iload_n 3, 1) := by decide +kernel
theorem dX10_oven_56 : decode bX10_oven 56 = .ok (.istore_n 2, 1) := by decide +kernel
theorem dX10_oven_57 : decode bX10_oven 57 = .ok (.iinc 3 1, 3) := by decide +kernel
theorem dX10_oven_60 : decode bX10_oven 60 = .ok (.goto (-39), 3) := by decide +kernel
theorem dX10_oven_63 : decode bX10_oven 63 = .ok (.iload_n 2, 1) := by decide +kernel
theorem dX10_oven_64 : decode bX10_oven 64 = .ok (.ireturn, 1) := by decide +kernel
theorem dX10_fall_0 : decode bX10_fall 0 = .ok (.aload_n 0, 1) := by decide +kernel
theorem dX10_fall_1 : decode bX10_fall 1 = .ok (.getfield 49, 3) := by decide +kernel
theorem dX10_fall_4 : decode bX10_fall 4 = .ok (.getfield 106, 3) := by decide +kernel
theorem dX10_fall_7 : decode bX10_fall 7 = .ok (.iload_n 1, 1) := by decide +kernel
theorem dX10_fall_8 : decode bX10_fall 8 = .ok (.invokevirtual 125, 3) := by decide +kernel
theorem dX10_fall_11 : decode bX10_fall 11 = .ok (.ifCond .eq 33, 3) := by decide +kernel
theorem dX10_fall_14 : decode bX10_fall 14 = .ok (.aload_n 0, 1) := by decide +kernel
theorem dX10_fall_15 : decode bX10_fall 15 = .ok (.getfield 49, 3) := by decide +kernel
theorem dX10_fall_18 : decode bX10_fall 18 = .ok (.getfield 106, 3) := by decide +kernel
theorem dX10_fall_21 : decode bX10_fall 21 = .ok (.iload_n 1, 1) := by decide +kernel
theorem dX10_fall_22 : decode bX10_fall 22 = .ok (.iconst 1, 1) := by decide +kernel
theorem dX10_fall_23 : decode bX10_fall 23 = .ok (.iadd, 1) := by decide +kernel
theorem dX10_fall_24 : decode bX10_fall 24 = .ok (.invokevirtual 125, 3) := by decide +kernel
theorem dX10_fall_27 : decode bX10_fall 27 = .ok (.ifCond .eq 17, 3) := by decide +kernel
theorem dX10_fall_30 : decode bX10_fall 30 = .ok (.aload_n 0, 1) := by decide +kernel
theorem dX10_fall_31 : decode bX10_fall 31 = .ok (.getfield 49, 3) := by decide +kernel
theorem dX10_fall_34 : decode bX10_fall 34 = .ok (.getfield 106, 3) := by decide +kernel
theorem dX10_fall_37 : decode bX10_fall 37 = .ok (.iload_n 2, 1) := by decide +kernel
theorem dX10_fall_38 : decode bX10_fall 38 = .ok (.invokevirtual 147, 3) := by decide +kernel
theorem dX10_fall_41 : decode bX10_fall 41 = .ok (.ifCond .ne 7, 3) := by decide +kernel
theorem dX10_fall_44 : decode bX10_fall 44 = .ok (.sipush (-10000), 3) := by decide +kernel
theorem dX10_fall_47 : decode bX10_fall 47 = .ok (.ireturn, 1) := by decide +kernel
theorem dX10_fall_48 : decode bX10_fall 48 = .ok (.aload_n 0, 1) := by decide +kernel
theorem dX10_fall_49 : decode bX10_fall 49 = .ok (.iload_n 1, 1) := by decide +kernel
theorem dX10_fall_50 : decode bX10_fall 50 = .ok (.iload_n 2, 1) := by decide +kernel
theorem dX10_fall_51 : decode bX10_fall 51 = .ok (.invokevirtual 253, 3) := by decide +kernel
theorem dX10_fall_54 : decode bX10_fall 54 = .ok (.ireturn, 1) := by decide +kernel
theorem dX10_cliff_0 : decode bX10_cliff 0 = .ok (.aload_n 0, 1) := by decide +kernel
theorem dX10_cliff_1 : decode bX10_cliff 1 = .ok (.getfield 49, 3) := by decide +kernel
theorem dX10_cliff_4 : decode bX10_cliff 4 = .ok (.getfield 106, 3) := by decide +kernel
theorem dX10_cliff_7 : decode bX10_cliff 7 = .ok (.iload_n 1, 1) := by decide +kernel
theorem dX10_cliff_8 : decode bX10_cliff 8 = .ok (.invokevirtual 147, 3) := by decide +kernel
theorem dX10_cliff_11 : decode bX10_cliff 11 = .ok (.ifCond .ne 6, 3) := by decide +kernel
theorem dX10_cliff_14 : decode bX10_cliff 14 = .ok (.bipush (-2), 2) := by decide +kernel
theorem dX10_cliff_16 : decode bX10_cliff 16 = .ok (.ireturn, 1) := by decide +kernel
theorem dX10_cliff_17 : decode bX10_cliff 17 = .ok (.iconst (-1), 1) := by decide +kernel
theorem dX10_cliff_18 : decode bX10_cliff 18 = .ok (.istore_n 2, 1) := by decide +kernel
theorem dX10_cliff_19 : decode bX10_cliff 19 = .ok (.iconst 0, 1) := by decide +kernel
theorem dX10_cliff_20 : decode bX10_cliff 20 = .ok (.istore_n 3, 1) := by decide +kernel
theorem dX10_cliff_21 : decode bX10_cliff 21 = .ok (.iload_n 3, 1) := by decide +kernel
theorem dX10_cliff_22 : decode bX10_cliff 22 = .ok (.iconst 1, 1) := by decide +kernel
theorem dX10_cliff_23 : decode bX10_cliff 23 = .ok (.iadd, 1) := by decide +kernel
theorem dX10_cliff_24 : decode bX10_cliff 24 = .ok (.aload_n 0, 1) := by decide +kernel
theorem dX10_cliff_25 : decode bX10_cliff 25 = .ok (.getfield 49, 3) := by decide +kernel
theorem dX10_cliff_28 : decode bX10_cliff 28 = .ok (.getfield 106, 3) := by decide +kernel
theorem dX10_cliff_31 : decode bX10_cliff 31 = .ok (.getfield 237, 3) := by decide +kernel
theorem dX10_cliff_34 : decode bX10_cliff 34 = .ok (.if_icmp .ge 31, 3) := by decide +kernel
theorem dX10_cliff_37 : decode bX10_cliff 37 = .ok (.iload_n 2, 1) := by decide +kernel
theorem dX10_cliff_38 : decode bX10_cliff 38 = .ok (.iconst (-1), 1) := by decide +kernel
theorem dX10_cliff_39 : decode bX10_cliff 39 = .ok (.if_icmp .eq 18, 3) := by decide +kernel
theorem dX10_cliff_42 : decode bX10_cliff 42 = .ok (.aload_n 0, 1) := by decide +kernel
theorem dX10_cliff_43 : decode bX10_cliff 43 = .ok (.iload_n 3, 1) := by decide +kernel
theorem dX10_cliff_44 : decode bX10_cliff 44 = .ok (.iload_n 1, 1) := by decide +kernel
theorem dX10_cliff_45 : decode bX10_cliff 45 = .ok (.invokevirtual 253, 3) := by decide +kernel
theorem dX10_cliff_48 : decode bX10_cliff 48 = .ok (.aload_n 0, 1) := by decide +kernel
theorem dX10_cliff_49 : decode bX10_cliff 49 = .ok (.iload_n 2, 1) := by decide +kernel
theorem dX10_cliff_50 : decode bX10_cliff 50 = .ok (.iload_n 1, 1) := by decide +kernel
theorem dX10_cliff_51 : decode bX10_cliff 51 = .ok (.invokevirtual 253, 3) := by decide +kernel
theorem dX10_cliff_54 : decode bX10_cliff 54 = .ok (.if_icmp .le 5, 3) := by decide +kernel
theorem dX10_cliff_57 : decode bX10_cliff 57 = .ok (.iload_n 3, 1) := by decide +kernel
theorem dX10_cliff_58 : decode bX10_cliff 58 = .ok (.istore_n 2, 1) := by decide +kernel
theorem dX10_cliff_59 : decode bX10_cliff 59 = .ok (.iinc 3 1, 3) := by decide +kernel
theorem dX10_cliff_62 : decode bX10_cliff 62 = .ok (.goto (-41), 3) := by decide +kernel
theorem dX10_cliff_65 : decode bX10_cliff 65 = .ok (.iload_n 2, 1) := by decide +kernel
theorem dX10_cliff_66 : decode bX10_cliff 66 = .ok (.ireturn, 1) := by decide +kernel
theorem dX10_airNow_0 : decode bX10_airNow 0 = .ok (.aload_n 0, 1) := by decide +kernel
theorem dX10_airNow_1 : decode bX10_airNow 1 = .ok (.getfield 49, 3) := by decide +kernel
theorem dX10_airNow_4 : decode bX10_airNow 4 = .ok (.iload_n 1, 1) := by decide +kernel
theorem dX10_airNow_5 : decode bX10_airNow 5 = .ok (.iload_n 2, 1) := by decide +kernel
theorem dX10_airNow_6 : decode bX10_airNow 6 = .ok (.aload_n 0, 1) := by decide +kernel
theorem dX10_airNow_7 : decode bX10_airNow 7 = .ok (.getfield 49, 3) := by decide +kernel
theorem dX10_airNow_10 : decode bX10_airNow 10 = .ok (.getfield 112, 3) := by decide +kernel
theorem dX10_airNow_13 : decode bX10_airNow 13 = .ok (.getfield 150, 3) := by decide +kernel
theorem dX10_airNow_16 : decode bX10_airNow 16 = .ok (.invokevirtual 153, 3) := by decide +kernel
theorem dX10_airNow_19 : decode bX10_airNow 19 = .ok (.ireturn, 1) := by decide +kernel
theorem dX10_airFall_0 : decode bX10_airFall 0 = .ok (.aload_n 0, 1) := by decide +kernel
theorem dX10_airFall_1 : decode bX10_airFall 1 = .ok (.iload_n 1, 1) := by decide +kernel
theorem dX10_airFall_2 : decode bX10_airFall 2 = .ok (.iload_n 2, 1) := by decide +kernel
theorem dX10_airFall_3 : decode bX10_airFall 3 = .ok (.invokevirtual 250, 3) := by decide +kernel
theorem dX10_airFall_6 : decode bX10_airFall 6 = .ok (.aload_n 0, 1) := by decide +kernel
theorem dX10_airFall_7 : decode bX10_airFall 7 = .ok (.iload_n 1, 1) := by decide +kernel
theorem dX10_airFall_8 : decode bX10_airFall 8 = .ok (.iconst 1, 1) := by decide +kernel
theorem dX10_airFall_9 : decode bX10_airFall 9 = .ok (.iadd, 1) := by decide +kernel
theorem dX10_airFall_10 : decode bX10_airFall 10 = .ok (.iload_n 2, 1) := by decide +kernel
theorem dX10_airFall_11 : decode bX10_airFall 11 = .ok (.invokevirtual 250, 3) := by decide +kernel
theorem dX10_airFall_14 : decode bX10_airFall 14 = .ok (.isub, 1) := by decide +kernel
theorem dX10_airFall_15 : decode bX10_airFall 15 = .ok (.ireturn, 1) := by decide +kernel
theorem dX10_least_0 : decode bX10_least 0 = .ok (.aload_n 0, 1) := by decide +kernel
theorem dX10_least_1 : decode bX10_least 1 = .ok (.getfield 49, 3) := by decide +kernel
theorem dX10_least_4 : decode bX10_least 4 = .ok (.getfield 106, 3) := by decide +kernel
theorem dX10_least_7 : decode bX10_least 7 = .ok (.iload_n 1, 1) := by decide +kernel
theorem dX10_least_8 : decode bX10_least 8 = .ok (.invokevirtual 132, 3) := by decide +kernel
theorem dX10_least_11 : decode bX10_least 11 = .ok (.ifCond .eq 14, 3) := by decide +kernel
theorem dX10_least_14 : decode bX10_least 14 = .ok (.aload_n 0, 1) := by decide +kernel
theorem dX10_least_15 : decode bX10_least 15 = .ok (.invokevirtual 171, 3) := by decide +kernel
theorem dX10_least_18 : decode bX10_least 18 = .ok (.iload_n 1, 1) := by decide +kernel
theorem dX10_least_19 : decode bX10_least 19 = .ok (.invokevirtual 256, 3) := by decide +kernel
theorem dX10_least_22 : decode bX10_least 22 = .ok (.goto 5, 3) := by decide +kernel
theorem dX10_least_25 : decode bX10_least 25 = .ok (.bipush (-2), 2) := by decide +kernel
theorem dX10_least_27 : decode bX10_least 27 = .ok (.ireturn, 1) := by decide +kernel
theorem dX10_chill_0 : decode bX10_chill 0 = .ok (.aload_n 0, 1) := by decide +kernel
theorem dX10_chill_1 : decode bX10_chill 1 = .ok (.getfield 49, 3) := by decide +kernel
theorem dX10_chill_4 : decode bX10_chill 4 = .ok (.getfield 106, 3) := by decide +kernel
theorem dX10_chill_7 : decode bX10_chill 7 = .ok (.iload_n 1, 1) := by decide +kernel
theorem dX10_chill_8 : decode bX10_chill 8 = .ok (.invokevirtual 132, 3) := by decide +kernel
theorem dX10_chill_11 : decode bX10_chill 11 = .ok (.ifCond .eq 14, 3) := by decide +kernel
theorem dX10_chill_14 : decode bX10_chill 14 = .ok (.aload_n 0, 1) := by decide +kernel
theorem dX10_chill_15 : decode bX10_chill 15 = .ok (.invokevirtual 171, 3) := by decide +kernel
theorem dX10_chill_18 : decode bX10_chill 18 = .ok (.iload_n 1, 1) := by decide +kernel
theorem dX10_chill_19 : decode bX10_chill 19 = .ok (.invokevirtual 259, 3) := by decide +kernel
theorem dX10_chill_22 : decode bX10_chill 22 = .ok (.goto 5, 3) := by decide +kernel
theorem dX10_chill_25 : decode bX10_chill 25 = .ok (.bipush (-2), 2) := by decide +kernel
theorem dX10_chill_27 : decode bX10_chill 27 = .ok (.ireturn, 1) := by decide +kernel
theorem dX10_drop_0 : decode bX10_drop 0 = .ok (.aload_n 0, 1) := by decide +kernel
theorem dX10_drop_1 : decode bX10_drop 1 = .ok (.getfield 49, 3) := by decide +kernel
theorem dX10_drop_4 : decode bX10_drop 4 = .ok (.getfield 106, 3) := by decide +kernel
theorem dX10_drop_7 : decode bX10_drop 7 = .ok (.iload_n 1, 1) := by decide +kernel
theorem dX10_drop_8 : decode bX10_drop 8 = .ok (.invokevirtual 132, 3) := by decide +kernel
theorem dX10_drop_11 : decode bX10_drop 11 = .ok (.ifCond .eq 17, 3) := by decide +kernel
theorem dX10_drop_14 : decode bX10_drop 14 = .ok (.aload_n 0, 1) := by decide +kernel
theorem dX10_drop_15 : decode bX10_drop 15 = .ok (.getfield 49, 3) := by decide +kernel
theorem dX10_drop_18 : decode bX10_drop 18 = .ok (.getfield 106, 3) := by decide +kernel
theorem dX10_drop_21 : decode bX10_drop 21 = .ok (.iload_n 2, 1) := by decide +kernel
theorem dX10_drop_22 : decode bX10_drop 22 = .ok (.invokevirtual 262, 3) := by decide +kernel
theorem dX10_drop_25 : decode bX10_drop 25 = .ok (.ifCond .ne 7, 3) := by decide +kernel
theorem dX10_drop_28 : decode bX10_drop 28 = .ok (.ldc_w 265, 3) := by decide +kernel
theorem dX10_drop_31 : decode bX10_drop 31 = .ok (.ireturn, 1) := by decide +kernel
theorem dX10_drop_32 : decode bX10_drop 32 = .ok (.aload_n 0, 1) := by decide +kernel
theorem dX10_drop_33 : decode bX10_drop 33 = .ok (.invokevirtual 171, 3) := by decide +kernel
theorem dX10_drop_36 : decode bX10_drop 36 = .ok (.iload_n 1, 1) := by decide +kernel
theorem dX10_drop_37 : decode bX10_drop 37 = .ok (.iload_n 2, 1) := by decide +kernel
theorem dX10_drop_38 : decode bX10_drop 38 = .ok (.invokevirtual 266, 3) := by decide +kernel
theorem dX10_drop_41 : decode bX10_drop 41 = .ok (.ireturn, 1) := by decide +kernel
theorem dX10_gaps_0 : decode bX10_gaps 0 = .ok (.aload_n 0, 1) := by decide +kernel
theorem dX10_gaps_1 : decode bX10_gaps 1 = .ok (.getfield 49, 3) := by decide +kernel
theorem dX10_gaps_4 : decode bX10_gaps 4 = .ok (.getfield 106, 3) := by decide +kernel
theorem dX10_gaps_7 : decode bX10_gaps 7 = .ok (.iload_n 1, 1) := by decide +kernel
theorem dX10_gaps_8 : decode bX10_gaps 8 = .ok (.invokevirtual 132, 3) := by decide +kernel
theorem dX10_gaps_11 : decode bX10_gaps 11 = .ok (.ifCond .eq 14, 3) := by decide +kernel
theorem dX10_gaps_14 : decode bX10_gaps 14 = .ok (.aload_n 0, 1) := by decide +kernel
theorem dX10_gaps_15 : decode bX10_gaps 15 = .ok (.invokevirtual 171, 3) := by decide +kernel
theorem dX10_gaps_18 : decode bX10_gaps 18 = .ok (.iload_n 1, 1) := by decide +kernel
theorem dX10_gaps_19 : decode bX10_gaps 19 = .ok (.invokevirtual 269, 3) := by decide +kernel
theorem dX10_gaps_22 : decode bX10_gaps 22 = .ok (.goto 5, 3) := by decide +kernel
theorem dX10_gaps_25 : decode bX10_gaps 25 = .ok (.bipush (-2), 2) := by decide +kernel
theorem dX10_gaps_27 : decode bX10_gaps 27 = .ok (.ireturn, 1) := by decide +kernel
theorem dX10_spread_0 : decode bX10_spread 0 = .ok (.aload_n 0, 1) := by decide +kernel
theorem dX10_spread_1 : decode bX10_spread 1 = .ok (.getfield 49, 3) := by decide +kernel
theorem dX10_spread_4 : decode bX10_spread 4 = .ok (.getfield 106, 3) := by decide +kernel
theorem dX10_spread_7 : decode bX10_spread 7 = .ok (.iload_n 1, 1) := by decide +kernel
theorem dX10_spread_8 : decode bX10_spread 8 = .ok (.invokevirtual 147, 3) := by decide +kernel
theorem dX10_spread_11 : decode bX10_spread 11 = .ok (.ifCond .eq 14, 3) := by decide +kernel
theorem dX10_spread_14 : decode bX10_spread 14 = .ok (.aload_n 0, 1) := by decide +kernel
theorem dX10_spread_15 : decode bX10_spread 15 = .ok (.invokevirtual 171, 3) := by decide +kernel
theorem dX10_spread_18 : decode bX10_spread 18 = .ok (.iload_n 1, 1) := by decide +kernel
theorem dX10_spread_19 : decode bX10_spread 19 = .ok (.invokevirtual 272, 3) := by decide +kernel
theorem dX10_spread_22 : decode bX10_spread 22 = .ok (.goto 5, 3) := by decide +kernel
theorem dX10_spread_25 : decode bX10_spread 25 = .ok (.bipush (-2), 2) := by decide +kernel
theorem dX10_spread_27 : decode bX10_spread 27 = .ok (.ireturn, 1) := by decide +kernel
theorem dX10_coming_0 : decode bX10_coming 0 = .ok (.aload_n 0, 1) := by decide +kernel
theorem dX10_coming_1 : decode bX10_coming 1 = .ok (.getfield 49, 3) := by decide +kernel
theorem dX10_coming_4 : decode bX10_coming 4 = .ok (.getfield 106, 3) := by decide +kernel
theorem dX10_coming_7 : decode bX10_coming 7 = .ok (.iload_n 1, 1) := by decide +kernel
theorem dX10_coming_8 : decode bX10_coming 8 = .ok (.invokevirtual 147, 3) := by decide +kernel
theorem dX10_coming_11 : decode bX10_coming 11 = .ok (.ifCond .eq 17, 3) := by decide +kernel
theorem dX10_coming_14 : decode bX10_coming 14 = .ok (.aload_n 0, 1) := by decide +kernel
theorem dX10_coming_15 : decode bX10_coming 15 = .ok (.getfield 49, 3) := by decide +kernel
theorem dX10_coming_18 : decode bX10_coming 18 = .ok (.getfield 106, 3) := by decide +kernel
theorem dX10_coming_21 : decode bX10_coming 21 = .ok (.iload_n 1, 1) := by decide +kernel
theorem dX10_coming_22 : decode bX10_coming 22 = .ok (.invokevirtual 275, 3) := by decide +kernel
theorem dX10_coming_25 : decode bX10_coming 25 = .ok (.goto 5, 3) := by decide +kernel
theorem dX10_coming_28 : decode bX10_coming 28 = .ok (.bipush (-2), 2) := by decide +kernel
theorem dX10_coming_30 : decode bX10_coming 30 = .ok (.ireturn, 1) := by decide +kernel
theorem dX10_cracked_0 : decode bX10_cracked 0 = .ok (.aload_n 0, 1) := by decide +kernel
theorem dX10_cracked_1 : decode bX10_cracked 1 = .ok (.getfield 49, 3) := by decide +kernel
theorem dX10_cracked_4 : decode bX10_cracked 4 = .ok (.getfield 106, 3) := by decide +kernel
theorem dX10_cracked_7 : decode bX10_cracked 7 = .ok (.iload_n 1, 1) := by decide +kernel
theorem dX10_cracked_8 : decode bX10_cracked 8 = .ok (.invokevirtual 147, 3) := by decide +kernel
theorem dX10_cracked_11 : decode bX10_cracked 11 = .ok (.ifCond .eq 14, 3) := by decide +kernel
theorem dX10_cracked_14 : decode bX10_cracked 14 = .ok (.aload_n 0, 1) := by decide +kernel
theorem dX10_cracked_15 : decode bX10_cracked 15 = .ok (.invokevirtual 171, 3) := by decide +kernel
theorem dX10_cracked_18 : decode bX10_cracked 18 = .ok (.iload_n 1, 1) := by decide +kernel
theorem dX10_cracked_19 : decode bX10_cracked 19 = .ok (.invokevirtual 278, 3) := by decide +kernel
theorem dX10_cracked_22 : decode bX10_cracked 22 = .ok (.goto 5, 3) := by decide +kernel
theorem dX10_cracked_25 : decode bX10_cracked 25 = .ok (.bipush (-2), 2) := by decide +kernel
theorem dX10_cracked_27 : decode bX10_cracked 27 = .ok (.ireturn, 1) := by decide +kernel
theorem dX10_kernel_0 : decode bX10_kernel 0 = .ok (.aload_n 0, 1) := by decide +kernel
theorem dX10_kernel_1 : decode bX10_kernel 1 = .ok (.getfield 49, 3) := by decide +kernel
theorem dX10_kernel_4 : decode bX10_kernel 4 = .ok (.getfield 106, 3) := by decide +kernel
theorem dX10_kernel_7 : decode bX10_kernel 7 = .ok (.iload_n 1, 1) := by decide +kernel
theorem dX10_kernel_8 : decode bX10_kernel 8 = .ok (.invokevirtual 147, 3) := by decide +kernel
theorem dX10_kernel_11 : decode bX10_kernel 11 = .ok (.ifCond .eq 15, 3) := by decide +kernel
theorem dX10_kernel_14 : decode bX10_kernel 14 = .ok (.aload_n 0, 1) := by decide +kernel
theorem dX10_kernel_15 : decode bX10_kernel 15 = .ok (.invokevirtual 171, 3) := by decide +kernel
theorem dX10_kernel_18 : decode bX10_kernel 18 = .ok (.iconst 1, 1) := by decide +kernel
theorem dX10_kernel_19 : decode bX10_kernel 19 = .ok (.iload_n 1, 1) := by decide +kernel
theorem dX10_kernel_20 : decode bX10_kernel 20 = .ok (.invokevirtual 213, 3) := by decide +kernel
theorem dX10_kernel_23 : decode bX10_kernel 23 = .ok (.goto 5, 3) := by decide +kernel
theorem dX10_kernel_26 : decode bX10_kernel 26 = .ok (.bipush (-2), 2) := by decide +kernel
theorem dX10_kernel_28 : decode bX10_kernel 28 = .ok (.ireturn, 1) := by decide +kernel
theorem dX10_tally_0 : decode bX10_tally 0 = .ok (.aload_n 0, 1) := by decide +kernel
theorem dX10_tally_1 : decode bX10_tally 1 = .ok (.getfield 49, 3) := by decide +kernel
theorem dX10_tally_4 : decode bX10_tally 4 = .ok (.getfield 106, 3) := by decide +kernel
theorem dX10_tally_7 : decode bX10_tally 7 = .ok (.invokevirtual 202, 3) := by decide +kernel
theorem dX10_tally_10 : decode bX10_tally 10 = .ok (.ifCond .eq 12, 3) := by decide +kernel
theorem dX10_tally_13 : decode bX10_tally 13 = .ok (.iload_n 1, 1) := by decide +kernel
theorem dX10_tally_14 : decode bX10_tally 14 = .ok (.ifCond .lt 8, 3) := by decide +kernel
theorem dX10_tally_17 : decode bX10_tally 17 = .ok (.iload_n 1, 1) := by decide +kernel
theorem dX10_tally_18 : decode bX10_tally 18 = .ok (.iconst 2, 1) := by decide +kernel
theorem dX10_tally_19 : decode bX10_tally 19 = .ok (.if_icmp .le 6, 3) := by decide +kernel
theorem dX10_tally_22 : decode bX10_tally 22 = .ok (.bipush (-2), 2) := by decide +kernel
theorem dX10_tally_24 : decode bX10_tally 24 = .ok (.ireturn, 1) := by decide +kernel
theorem dX10_tally_25 : decode bX10_tally 25 = .ok (.aload_n 0, 1) := by decide +kernel
theorem dX10_tally_26 : decode bX10_tally 26 = .ok (.invokevirtual 171, 3) := by decide +kernel
theorem dX10_tally_29 : decode bX10_tally 29 = .ok (.iload_n 1, 1) := by decide +kernel
theorem dX10_tally_30 : decode bX10_tally 30 = .ok (.invokevirtual 281, 3) := by decide +kernel
theorem dX10_tally_33 : decode bX10_tally 33 = .ok (.ireturn, 1) := by decide +kernel
theorem dX10_last_0 : decode bX10_last 0 = .ok (.aload_n 0, 1) := by decide +kernel
theorem dX10_last_1 : decode bX10_last 1 = .ok (.getfield 49, 3) := by decide +kernel
theorem dX10_last_4 : decode bX10_last 4 = .ok (.getfield 106, 3) := by decide +kernel
theorem dX10_last_7 : decode bX10_last 7 = .ok (.iload_n 1, 1) := by decide +kernel
theorem dX10_last_8 : decode bX10_last 8 = .ok (.invokevirtual 125, 3) := by decide +kernel
theorem dX10_last_11 : decode bX10_last 11 = .ok (.ifCond .ne 6, 3) := by decide +kernel
theorem dX10_last_14 : decode bX10_last 14 = .ok (.bipush (-2), 2) := by decide +kernel
theorem dX10_last_16 : decode bX10_last 16 = .ok (.ireturn, 1) := by decide +kernel
theorem dX10_last_17 : decode bX10_last 17 = .ok (.iconst (-1), 1) := by decide +kernel
theorem dX10_last_18 : decode bX10_last 18 = .ok (.istore_n 2, 1) := by decide +kernel
theorem dX10_last_19 : decode bX10_last 19 = .ok (.iconst 0, 1) := by decide +kernel
theorem dX10_last_20 : decode bX10_last 20 = .ok (.istore_n 3, 1) := by decide +kernel
theorem dX10_last_21 : decode bX10_last 21 = .ok (.iload_n 3, 1) := by decide +kernel
theorem dX10_last_22 : decode bX10_last 22 = .ok (.aload_n 0, 1) := by decide +kernel
theorem dX10_last_23 : decode bX10_last 23 = .ok (.getfield 49, 3) := by decide +kernel
theorem dX10_last_26 : decode bX10_last 26 = .ok (.getfield 106, 3) := by decide +kernel
theorem dX10_last_29 : decode bX10_last 29 = .ok (.getfield 210, 3) := by decide +kernel
theorem dX10_last_32 : decode bX10_last 32 = .ok (.if_icmp .gt 26, 3) := by decide +kernel
theorem dX10_last_35 : decode bX10_last 35 = .ok (.aload_n 0, 1) := by decide +kernel
theorem dX10_last_36 : decode bX10_last 36 = .ok (.getfield 49, 3) := by decide +kernel
theorem dX10_last_39 : decode bX10_last 39 = .ok (.getfield 106, 3) := by decide +kernel
theorem dX10_last_42 : decode bX10_last 42 = .ok (.iload_n 1, 1) := by decide +kernel
theorem dX10_last_43 : decode bX10_last 43 = .ok (.iload_n 3, 1) := by decide +kernel
theorem dX10_last_44 : decode bX10_last 44 = .ok (.invokevirtual 161, 3) := by decide +kernel
theorem dX10_last_47 : decode bX10_last 47 = .ok (.ifCond .eq 5, 3) := by decide +kernel
theorem dX10_last_50 : decode bX10_last 50 = .ok (.iload_n 3, 1) := by decide +kernel
theorem dX10_last_51 : decode bX10_last 51 = .ok (.istore_n 2, 1) := by decide +kernel
theorem dX10_last_52 : decode bX10_last 52 = .ok (.iinc 3 1, 3) := by decide +kernel
theorem dX10_last_55 : decode bX10_last 55 = .ok (.goto (-34), 3) := by decide +kernel
theorem dX10_last_58 : decode bX10_last 58 = .ok (.iload_n 2, 1) := by decide +kernel
theorem dX10_last_59 : decode bX10_last 59 = .ok (.ireturn, 1) := by decide +kernel
theorem dX10_busy_0 : decode bX10_busy 0 = .ok (.aload_n 0, 1) := by decide +kernel
theorem dX10_busy_1 : decode bX10_busy 1 = .ok (.getfield 49, 3) := by decide +kernel
theorem dX10_busy_4 : decode bX10_busy 4 = .ok (.getfield 106, 3) := by decide +kernel
theorem dX10_busy_7 : decode bX10_busy 7 = .ok (.iload_n 1, 1) := by decide +kernel
theorem dX10_busy_8 : decode bX10_busy 8 = .ok (.invokevirtual 125, 3) := by decide +kernel
theorem dX10_busy_11 : decode bX10_busy 11 = .ok (.ifCond .eq 17, 3) := by decide +kernel
theorem dX10_busy_14 : decode bX10_busy 14 = .ok (.aload_n 0, 1) := by decide +kernel
theorem dX10_busy_15 : decode bX10_busy 15 = .ok (.getfield 49, 3) := by decide +kernel
theorem dX10_busy_18 : decode bX10_busy 18 = .ok (.getfield 106, 3) := by decide +kernel
theorem dX10_busy_21 : decode bX10_busy 21 = .ok (.iload_n 1, 1) := by decide +kernel
theorem dX10_busy_22 : decode bX10_busy 22 = .ok (.invokevirtual 284, 3) := by decide +kernel
theorem dX10_busy_25 : decode bX10_busy 25 = .ok (.goto 5, 3) := by decide +kernel
theorem dX10_busy_28 : decode bX10_busy 28 = .ok (.bipush (-2), 2) := by decide +kernel
theorem dX10_busy_30 : decode bX10_busy 30 = .ok (.ireturn, 1) := by decide +kernel
theorem dX10_idle_0 : decode bX10_idle 0 = .ok (.aload_n 0, 1) := by decide +kernel
theorem dX10_idle_1 : decode bX10_idle 1 = .ok (.getfield 49, 3) := by decide +kernel
theorem dX10_idle_4 : decode bX10_idle 4 = .ok (.getfield 106, 3) := by decide +kernel
theorem dX10_idle_7 : decode bX10_idle 7 = .ok (.invokevirtual 202, 3) := by decide +kernel
theorem dX10_idle_10 : decode bX10_idle 10 = .ok (.ifCond .ne 6, 3) := by decide +kernel
theorem dX10_idle_13 : decode bX10_idle 13 = .ok (.bipush (-2), 2) := by decide +kernel
theorem dX10_idle_15 : decode bX10_idle 15 = .ok (.ireturn, 1) := by decide +kernel
theorem dX10_idle_16 : decode bX10_idle 16 = .ok (.iconst 0, 1) := by decide +kernel
theorem dX10_idle_17 : decode bX10_idle 17 = .ok (.istore_n 1, 1) := by decide +kernel
theorem dX10_idle_18 : decode bX10_idle 18 = .ok (.iconst 0, 1) := by decide +kernel
theorem dX10_idle_19 : decode bX10_idle 19 = .ok (.istore_n 2, 1) := by decide +kernel
theorem dX10_idle_20 : decode bX10_idle 20 = .ok (.iload_n 2, 1) := by decide +kernel
theorem dX10_idle_21 : decode bX10_idle 21 = .ok (.aload_n 0, 1) := by decide +kernel
theorem dX10_idle_22 : decode bX10_idle 22 = .ok (.getfield 49, 3) := by decide +kernel
theorem dX10_idle_25 : decode bX10_idle 25 = .ok (.getfield 106, 3) := by decide +kernel
theorem dX10_idle_28 : decode bX10_idle 28 = .ok (.getfield 237, 3) := by decide +kernel
theorem dX10_idle_31 : decode bX10_idle 31 = .ok (.if_icmp .ge 29, 3) := by decide +kernel
theorem dX10_idle_34 : decode bX10_idle 34 = .ok (.aload_n 0, 1) := by decide +kernel
theorem dX10_idle_35 : decode bX10_idle 35 = .ok (.getfield 49, 3) := by decide +kernel
theorem dX10_idle_38 : decode bX10_idle 38 = .ok (.getfield 106, 3) := by decide +kernel
theorem dX10_idle_41 : decode bX10_idle 41 = .ok (.iload_n 2, 1) := by decide +kernel
theorem dX10_idle_42 : decode bX10_idle 42 = .ok (.invokevirtual 284, 3) := by decide +kernel
theorem dX10_idle_45 : decode bX10_idle 45 = .ok (.ifCond .ne 9, 3) := by decide +kernel
theorem dX10_idle_48 : decode bX10_idle 48 = .ok (.iload_n 1, 1) := by decide +kernel
theorem dX10_idle_49 : decode bX10_idle 49 = .ok (.iconst 1, 1) := by decide +kernel
theorem dX10_idle_50 : decode bX10_idle 50 = .ok (.iload_n 2, 1) := by decide +kernel
theorem dX10_idle_51 : decode bX10_idle 51 = .ok (.ishl, 1) := by decide +kernel
theorem dX10_idle_52 : decode bX10_idle 52 = .ok (.ior, 1) := by decide +kernel
theorem dX10_idle_53 : decode bX10_idle 53 = .ok (.istore_n 1, 1) := by decide +kernel
theorem dX10_idle_54 : decode bX10_idle 54 = .ok (.iinc 2 1, 3) := by decide +kernel
theorem dX10_idle_57 : decode bX10_idle 57 = .ok (.goto (-37), 3) := by decide +kernel
theorem dX10_idle_60 : decode bX10_idle 60 = .ok (.iload_n 1, 1) := by decide +kernel
theorem dX10_idle_61 : decode bX10_idle 61 = .ok (.ireturn, 1) := by decide +kernel
theorem dX10_stiff_0 : decode bX10_stiff 0 = .ok (.aload_n 0, 1) := by decide +kernel
theorem dX10_stiff_1 : decode bX10_stiff 1 = .ok (.getfield 49, 3) := by decide +kernel
theorem dX10_stiff_4 : decode bX10_stiff 4 = .ok (.getfield 106, 3) := by decide +kernel
theorem dX10_stiff_7 : decode bX10_stiff 7 = .ok (.iload_n 1, 1) := by decide +kernel
theorem dX10_stiff_8 : decode bX10_stiff 8 = .ok (.invokevirtual 147, 3) := by decide +kernel
theorem dX10_stiff_11 : decode bX10_stiff 11 = .ok (.ifCond .eq 14, 3) := by decide +kernel
theorem dX10_stiff_14 : decode bX10_stiff 14 = .ok (.aload_n 0, 1) := by decide +kernel
theorem dX10_stiff_15 : decode bX10_stiff 15 = .ok (.invokevirtual 171, 3) := by decide +kernel
theorem dX10_stiff_18 : decode bX10_stiff 18 = .ok (.iload_n 1, 1) := by decide +kernel
theorem dX10_stiff_19 : decode bX10_stiff 19 = .ok (.invokevirtual 287, 3) := by decide +kernel
theorem dX10_stiff_22 : decode bX10_stiff 22 = .ok (.goto 5, 3) := by decide +kernel
theorem dX10_stiff_25 : decode bX10_stiff 25 = .ok (.bipush (-2), 2) := by decide +kernel
theorem dX10_stiff_27 : decode bX10_stiff 27 = .ok (.ireturn, 1) := by decide +kernel
theorem dX10_spare_0 : decode bX10_spare 0 = .ok (.aload_n 0, 1) := by decide +kernel
theorem dX10_spare_1 : decode bX10_spare 1 = .ok (.getfield 49, 3) := by decide +kernel
theorem dX10_spare_4 : decode bX10_spare 4 = .ok (.getfield 106, 3) := by decide +kernel
theorem dX10_spare_7 : decode bX10_spare 7 = .ok (.iload_n 1, 1) := by decide +kernel
theorem dX10_spare_8 : decode bX10_spare 8 = .ok (.invokevirtual 132, 3) := by decide +kernel
theorem dX10_spare_11 : decode bX10_spare 11 = .ok (.ifCond .ne 6, 3) := by decide +kernel
theorem dX10_spare_14 : decode bX10_spare 14 = .ok (.bipush (-2), 2) := by decide +kernel
theorem dX10_spare_16 : decode bX10_spare 16 = .ok (.ireturn, 1) := by decide +kernel
theorem dX10_spare_17 : decode bX10_spare 17 = .ok (.aload_n 0, 1) := by decide +kernel
theorem dX10_spare_18 : decode bX10_spare 18 = .ok (.getfield 49, 3) := by decide +kernel
theorem dX10_spare_21 : decode bX10_spare 21 = .ok (.getfield 106, 3) := by decide +kernel
theorem dX10_spare_24 : decode bX10_spare 24 = .ok (.getfield 141, 3) := by decide +kernel
theorem dX10_spare_27 : decode bX10_spare 27 = .ok (.iload_n 1, 1) := by decide +kernel
theorem dX10_spare_28 : decode bX10_spare 28 = .ok (.iaload, 1) := by decide +kernel
theorem dX10_spare_29 : decode bX10_spare 29 = .ok (.aload_n 0, 1) := by decide +kernel
theorem dX10_spare_30 : decode bX10_spare 30 = .ok (.getfield 65, 3) := by decide +kernel
theorem dX10_spare_33 : decode bX10_spare 33 = .ok (.iload_n 1, 1) := by decide +kernel
theorem dX10_spare_34 : decode bX10_spare 34 = .ok (.invokevirtual 290, 3) := by decide +kernel
theorem dX10_spare_37 : decode bX10_spare 37 = .ok (.isub, 1) := by decide +kernel
theorem dX10_spare_38 : decode bX10_spare 38 = .ok (.istore_n 2, 1) := by decide +kernel
theorem dX10_spare_39 : decode bX10_spare 39 = .ok (.iload_n 2, 1) := by decide +kernel
theorem dX10_spare_40 : decode bX10_spare 40 = .ok (.ifCond .ge 7, 3) := by decide +kernel
theorem dX10_spare_43 : decode bX10_spare 43 = .ok (.iconst (-1), 1) := by decide +kernel
theorem dX10_spare_44 : decode bX10_spare 44 = .ok (.goto 4, 3) := by decide +kernel
theorem dX10_spare_47 : decode bX10_spare 47 = .ok (.iload_n 2, 1) := by decide +kernel
theorem dX10_spare_48 : decode bX10_spare 48 = .ok (.ireturn, 1) := by decide +kernel
theorem dX10_needs_0 : decode bX10_needs 0 = .ok (.aload_n 0, 1) := by decide +kernel
theorem dX10_needs_1 : decode bX10_needs 1 = .ok (.getfield 49, 3) := by decide +kernel
theorem dX10_needs_4 : decode bX10_needs 4 = .ok (.getfield 106, 3) := by decide +kernel
theorem dX10_needs_7 : decode bX10_needs 7 = .ok (.iload_n 1, 1) := by decide +kernel
theorem dX10_needs_8 : decode bX10_needs 8 = .ok (.invokevirtual 132, 3) := by decide +kernel
theorem dX10_needs_11 : decode bX10_needs 11 = .ok (.ifCond .ne 6, 3) := by decide +kernel
theorem dX10_needs_14 : decode bX10_needs 14 = .ok (.bipush (-2), 2) := by decide +kernel
theorem dX10_needs_16 : decode bX10_needs 16 = .ok (.ireturn, 1) := by decide +kernel
theorem dX10_needs_17 : decode bX10_needs 17 = .ok (.aload_n 0, 1) := by decide +kernel
theorem dX10_needs_18 : decode bX10_needs 18 = .ok (.getfield 65, 3) := by decide +kernel
theorem dX10_needs_21 : decode bX10_needs 21 = .ok (.iload_n 1, 1) := by decide +kernel
theorem dX10_needs_22 : decode bX10_needs 22 = .ok (.invokevirtual 290, 3) := by decide +kernel
theorem dX10_needs_25 : decode bX10_needs 25 = .ok (.istore_n 2, 1) := by decide +kernel
theorem dX10_needs_26 : decode bX10_needs 26 = .ok (.iload_n 2, 1) := by decide +kernel
theorem dX10_needs_27 : decode bX10_needs 27 = .ok (.sipush 300, 3) := by decide +kernel
theorem dX10_needs_30 : decode bX10_needs 30 = .ok (.if_icmp .le 7, 3) := by decide +kernel
theorem dX10_needs_33 : decode bX10_needs 33 = .ok (.iconst (-1), 1) := by decide +kernel
theorem dX10_needs_34 : decode bX10_needs 34 = .ok (.goto 4, 3) := by decide +kernel
theorem dX10_needs_37 : decode bX10_needs 37 = .ok (.iload_n 2, 1) := by decide +kernel
theorem dX10_needs_38 : decode bX10_needs 38 = .ok (.ireturn, 1) := by decide +kernel
theorem dX10_thin_0 : decode bX10_thin 0 = .ok (.aload_n 0, 1) := by decide +kernel
theorem dX10_thin_1 : decode bX10_thin 1 = .ok (.getfield 49, 3) := by decide +kernel
theorem dX10_thin_4 : decode bX10_thin 4 = .ok (.getfield 106, 3) := by decide +kernel
theorem dX10_thin_7 : decode bX10_thin 7 = .ok (.iload_n 1, 1) := by decide +kernel
theorem dX10_thin_8 : decode bX10_thin 8 = .ok (.invokevirtual 132, 3) := by decide +kernel
theorem dX10_thin_11 : decode bX10_thin 11 = .ok (.ifCond .eq 14, 3) := by decide +kernel
theorem dX10_thin_14 : decode bX10_thin 14 = .ok (.aload_n 0, 1) := by decide +kernel
theorem dX10_thin_15 : decode bX10_thin 15 = .ok (.getfield 65, 3) := by decide +kernel
theorem dX10_thin_18 : decode bX10_thin 18 = .ok (.iload_n 1, 1) := by decide +kernel
theorem dX10_thin_19 : decode bX10_thin 19 = .ok (.invokevirtual 293, 3) := by decide +kernel
theorem dX10_thin_22 : decode bX10_thin 22 = .ok (.goto 5, 3) := by decide +kernel
theorem dX10_thin_25 : decode bX10_thin 25 = .ok (.bipush (-2), 2) := by decide +kernel
theorem dX10_thin_27 : decode bX10_thin 27 = .ok (.ireturn, 1) := by decide +kernel
theorem dX10_pace_0 : decode bX10_pace 0 = .ok (.aload_n 0, 1) := by decide +kernel
theorem dX10_pace_1 : decode bX10_pace 1 = .ok (.getfield 49, 3) := by decide +kernel
theorem dX10_pace_4 : decode bX10_pace 4 = .ok (.getfield 106, 3) := by decide +kernel
theorem dX10_pace_7 : decode bX10_pace 7 = .ok (.invokevirtual 202, 3) := by decide +kernel
theorem dX10_pace_10 : decode bX10_pace 10 = .ok (.ifCond .eq 13, 3) := by decide +kernel
theorem dX10_pace_13 : decode bX10_pace 13 = .ok (.aload_n 0, 1) := by decide +kernel
theorem dX10_pace_14 : decode bX10_pace 14 = .ok (.getfield 65, 3) := by decide +kernel
theorem dX10_pace_17 : decode bX10_pace 17 = .ok (.invokevirtual 296, 3) := by decide +kernel
theorem dX10_pace_20 : decode bX10_pace 20 = .ok (.goto 5, 3) := by decide +kernel
theorem dX10_pace_23 : decode bX10_pace 23 = .ok (.bipush (-2), 2) := by decide +kernel
theorem dX10_pace_25 : decode bX10_pace 25 = .ok (.ireturn, 1) := by decide +kernel
theorem dX10_paced_0 : decode bX10_paced 0 = .ok (.aload_n 0, 1) := by decide +kernel
theorem dX10_paced_1 : decode bX10_paced 1 = .ok (.getfield 49, 3) := by decide +kernel
theorem dX10_paced_4 : decode bX10_paced 4 = .ok (.getfield 106, 3) := by decide +kernel
theorem dX10_paced_7 : decode bX10_paced 7 = .ok (.invokevirtual 202, 3) := by decide +kernel
theorem dX10_paced_10 : decode bX10_paced 10 = .ok (.ifCond .eq 20, 3) := by decide +kernel
theorem dX10_paced_13 : decode bX10_paced 13 = .ok (.aload_n 0, 1) := by decide +kernel
theorem dX10_paced_14 : decode bX10_paced 14 = .ok (.getfield 65, 3) := by decide +kernel
theorem dX10_paced_17 : decode bX10_paced 17 = .ok (.aload_n 0, 1) := by decide +kernel
theorem dX10_paced_18 : decode bX10_paced 18 = .ok (.getfield 65, 3) := by decide +kernel
theorem dX10_paced_21 : decode bX10_paced 21 = .ok (.invokevirtual 296, 3) := by decide +kernel
theorem dX10_paced_24 : decode bX10_paced 24 = .ok (.invokevirtual 299, 3) := by decide +kernel
theorem dX10_paced_27 : decode bX10_paced 27 = .ok (.goto 5, 3) := by decide +kernel
theorem dX10_paced_30 : decode bX10_paced 30 = .ok (.bipush (-2), 2) := by decide +kernel
theorem dX10_paced_32 : decode bX10_paced 32 = .ok (.ireturn, 1) := by decide +kernel
theorem dX10_raise_0 : decode bX10_raise 0 = .ok (.aload_n 0, 1) := by decide +kernel
theorem dX10_raise_1 : decode bX10_raise 1 = .ok (.getfield 49, 3) := by decide +kernel
theorem dX10_raise_4 : decode bX10_raise 4 = .ok (.getfield 106, 3) := by decide +kernel
theorem dX10_raise_7 : decode bX10_raise 7 = .ok (.iload_n 1, 1) := by decide +kernel
theorem dX10_raise_8 : decode bX10_raise 8 = .ok (.invokevirtual 125, 3) := by decide +kernel
theorem dX10_raise_11 : decode bX10_raise 11 = .ok (.ifCond .eq 17, 3) := by decide +kernel
theorem dX10_raise_14 : decode bX10_raise 14 = .ok (.aload_n 0, 1) := by decide +kernel
theorem dX10_raise_15 : decode bX10_raise 15 = .ok (.getfield 49, 3) := by decide +kernel
theorem dX10_raise_18 : decode bX10_raise 18 = .ok (.getfield 106, 3) := by decide +kernel
theorem dX10_raise_21 : decode bX10_raise 21 = .ok (.iload_n 2, 1) := by decide +kernel
theorem dX10_raise_22 : decode bX10_raise 22 = .ok (.invokevirtual 132, 3) := by decide +kernel
theorem dX10_raise_25 : decode bX10_raise 25 = .ok (.ifCond .ne 6, 3) := by decide +kernel
theorem dX10_raise_28 : decode bX10_raise 28 = .ok (.bipush (-2), 2) := by decide +kernel
theorem dX10_raise_30 : decode bX10_raise 30 = .ok (.ireturn, 1) := by decide +kernel
theorem dX10_raise_31 : decode bX10_raise 31 = .ok (.aload_n 0, 1) := by decide +kernel
theorem dX10_raise_32 : decode bX10_raise 32 = .ok (.getfield 65, 3) := by decide +kernel
theorem dX10_raise_35 : decode bX10_raise 35 = .ok (.iload_n 1, 1) := by decide +kernel
theorem dX10_raise_36 : decode bX10_raise 36 = .ok (.iload_n 2, 1) := by decide +kernel
theorem dX10_raise_37 : decode bX10_raise 37 = .ok (.sipush 200, 3) := by decide +kernel
theorem dX10_raise_40 : decode bX10_raise 40 = .ok (.invokevirtual 302, 3) := by decide +kernel
theorem dX10_raise_43 : decode bX10_raise 43 = .ok (.ireturn, 1) := by decide +kernel
theorem dX10_rescue_0 : decode bX10_rescue 0 = .ok (.aload_n 0, 1) := by decide +kernel
theorem dX10_rescue_1 : decode bX10_rescue 1 = .ok (.getfield 49, 3) := by decide +kernel
theorem dX10_rescue_4 : decode bX10_rescue 4 = .ok (.getfield 106, 3) := by decide +kernel
theorem dX10_rescue_7 : decode bX10_rescue 7 = .ok (.iload_n 1, 1) := by decide +kernel
theorem dX10_rescue_8 : decode bX10_rescue 8 = .ok (.invokevirtual 132, 3) := by decide +kernel
theorem dX10_rescue_11 : decode bX10_rescue 11 = .ok (.ifCond .eq 14, 3) := by decide +kernel
theorem dX10_rescue_14 : decode bX10_rescue 14 = .ok (.aload_n 0, 1) := by decide +kernel
theorem dX10_rescue_15 : decode bX10_rescue 15 = .ok (.getfield 65, 3) := by decide +kernel
theorem dX10_rescue_18 : decode bX10_rescue 18 = .ok (.iload_n 1, 1) := by decide +kernel
theorem dX10_rescue_19 : decode bX10_rescue 19 = .ok (.invokevirtual 305, 3) := by decide +kernel
theorem dX10_rescue_22 : decode bX10_rescue 22 = .ok (.goto 5, 3) := by decide +kernel
theorem dX10_rescue_25 : decode bX10_rescue 25 = .ok (.bipush (-2), 2) := by decide +kernel
theorem dX10_rescue_27 : decode bX10_rescue 27 = .ok (.ireturn, 1) := by decide +kernel
theorem dX10_swap_0 : decode bX10_swap 0 = .ok (.aload_n 0, 1) := by decide +kernel
theorem dX10_swap_1 : decode bX10_swap 1 = .ok (.getfield 49, 3) := by decide +kernel
theorem dX10_swap_4 : decode bX10_swap 4 = .ok (.getfield 106, 3) := by decide +kernel
theorem dX10_swap_7 : decode bX10_swap 7 = .ok (.invokevirtual 202, 3) := by decide +kernel
theorem dX10_swap_10 : decode bX10_swap 10 = .ok (.ifCond .eq 13, 3) := by decide +kernel
theorem dX10_swap_13 : decode bX10_swap 13 = .ok (.aload_n 0, 1) := by decide +kernel
theorem dX10_swap_14 : decode bX10_swap 14 = .ok (.getfield 65, 3) := by decide +kernel
theorem dX10_swap_17 : decode bX10_swap 17 = .ok (.invokevirtual 308, 3) := by decide +kernel
theorem dX10_swap_20 : decode bX10_swap 20 = .ok (.goto 5, 3) := by decide +kernel
theorem dX10_swap_23 : decode bX10_swap 23 = .ok (.bipush (-2), 2) := by decide +kernel
theorem dX10_swap_25 : decode bX10_swap 25 = .ok (.ireturn, 1) := by decide +kernel
theorem dX10_skip_0 : decode bX10_skip 0 = .ok (.aload_n 0, 1) := by decide +kernel
theorem dX10_skip_1 : decode bX10_skip 1 = .ok (.getfield 49, 3) := by decide +kernel
theorem dX10_skip_4 : decode bX10_skip 4 = .ok (.getfield 106, 3) := by decide +kernel
theorem dX10_skip_7 : decode bX10_skip 7 = .ok (.invokevirtual 202, 3) := by decide +kernel
theorem dX10_skip_10 : decode bX10_skip 10 = .ok (.ifCond .eq 13, 3) := by decide +kernel
theorem dX10_skip_13 : decode bX10_skip 13 = .ok (.aload_n 0, 1) := by decide +kernel
theorem dX10_skip_14 : decode bX10_skip 14 = .ok (.getfield 65, 3) := by decide +kernel
theorem dX10_skip_17 : decode bX10_skip 17 = .ok (.invokevirtual 311, 3) := by decide +kernel
theorem dX10_skip_20 : decode bX10_skip 20 = .ok (.goto 5, 3) := by decide +kernel
theorem dX10_skip_23 : decode bX10_skip 23 = .ok (.bipush (-2), 2) := by decide +kernel
theorem dX10_skip_25 : decode bX10_skip 25 = .ok (.ireturn, 1) := by decide +kernel
theorem dX10_airs_0 : decode bX10_airs 0 = .ok (.aload_n 0, 1) := by decide +kernel
theorem dX10_airs_1 : decode bX10_airs 1 = .ok (.iload_n 1, 1) := by decide +kernel
theorem dX10_airs_2 : decode bX10_airs 2 = .ok (.aload_n 0, 1) := by decide +kernel
theorem dX10_airs_3 : decode bX10_airs 3 = .ok (.getfield 49, 3) := by decide +kernel
theorem dX10_airs_6 : decode bX10_airs 6 = .ok (.getfield 106, 3) := by decide +kernel
theorem dX10_airs_9 : decode bX10_airs 9 = .ok (.iload_n 2, 1) := by decide +kernel
theorem dX10_airs_10 : decode bX10_airs 10 = .ok (.invokevirtual 125, 3) := by decide +kernel
theorem dX10_airs_13 : decode bX10_airs 13 = .ok (.invokevirtual 314, 3) := by decide +kernel
theorem dX10_airs_16 : decode bX10_airs 16 = .ok (.istore_n 3, 1) := by decide +kernel
theorem dX10_airs_17 : decode bX10_airs 17 = .ok (.iload_n 3, 1) := by decide +kernel
theorem dX10_airs_18 : decode bX10_airs 18 = .ok (.ifCond .eq 7, 3) := by decide +kernel
theorem dX10_airs_21 : decode bX10_airs 21 = .ok (.iload_n 3, 1) := by decide +kernel
theorem dX10_airs_22 : decode bX10_airs 22 = .ok (.goto 16, 3) := by decide +kernel
theorem dX10_airs_25 : decode bX10_airs 25 = .ok (.aload_n 0, 1) := by decide +kernel
theorem dX10_airs_26 : decode bX10_airs 26 = .ok (.getfield 65, 3) := by decide +kernel
theorem dX10_airs_29 : decode bX10_airs 29 = .ok (.aload_n 0, 1) := by decide +kernel
theorem dX10_airs_30 : decode bX10_airs 30 = .ok (.iload_n 1, 1) := by decide +kernel
theorem dX10_airs_31 : decode bX10_airs 31 = .ok (.invokevirtual 318, 3) := by decide +kernel
theorem dX10_airs_34 : decode bX10_airs 34 = .ok (.iload_n 2, 1) := by decide +kernel
theorem dX10_airs_35 : decode bX10_airs 35 = .ok (.invokevirtual 322, 3) := by decide +kernel
theorem dX10_airs_38 : decode bX10_airs 38 = .ok (.ireturn, 1) := by decide +kernel
theorem dX10_low_0 : decode bX10_low 0 = .ok (.aload_n 0, 1) := by decide +kernel
theorem dX10_low_1 : decode bX10_low 1 = .ok (.iload_n 1, 1) := by decide +kernel
theorem dX10_low_2 : decode bX10_low 2 = .ok (.aload_n 0, 1) := by decide +kernel
theorem dX10_low_3 : decode bX10_low 3 = .ok (.getfield 49, 3) := by decide +kernel
theorem dX10_low_6 : decode bX10_low 6 = .ok (.getfield 106, 3) := by decide +kernel
theorem dX10_low_9 : decode bX10_low 9 = .ok (.iload_n 2, 1) := by decide +kernel
theorem dX10_low_10 : decode bX10_low 10 = .ok (.invokevirtual 125, 3) := by decide +kernel
theorem dX10_low_13 : decode bX10_low 13 = .ok (.invokevirtual 314, 3) := by decide +kernel
theorem dX10_low_16 : decode bX10_low 16 = .ok (.istore_n 3, 1) := by decide +kernel
theorem dX10_low_17 : decode bX10_low 17 = .ok (.iload_n 3, 1) := by decide +kernel
theorem dX10_low_18 : decode bX10_low 18 = .ok (.ifCond .eq 7, 3) := by decide +kernel
theorem dX10_low_21 : decode bX10_low 21 = .ok (.iload_n 3, 1) := by decide +kernel
theorem dX10_low_22 : decode bX10_low 22 = .ok (.goto 16, 3) := by decide +kernel
theorem dX10_low_25 : decode bX10_low 25 = .ok (.aload_n 0, 1) := by decide +kernel
theorem dX10_low_26 : decode bX10_low 26 = .ok (.getfield 65, 3) := by decide +kernel
theorem dX10_low_29 : decode bX10_low 29 = .ok (.aload_n 0, 1) := by decide +kernel
theorem dX10_low_30 : decode bX10_low 30 = .ok (.iload_n 1, 1) := by decide +kernel
theorem dX10_low_31 : decode bX10_low 31 = .ok (.invokevirtual 318, 3) := by decide +kernel
theorem dX10_low_34 : decode bX10_low 34 = .ok (.iload_n 2, 1) := by decide +kernel
theorem dX10_low_35 : decode bX10_low 35 = .ok (.invokevirtual 326, 3) := by decide +kernel
theorem dX10_low_38 : decode bX10_low 38 = .ok (.ireturn, 1) := by decide +kernel
theorem dX10_high_0 : decode bX10_high 0 = .ok (.aload_n 0, 1) := by decide +kernel
theorem dX10_high_1 : decode bX10_high 1 = .ok (.iload_n 1, 1) := by decide +kernel
theorem dX10_high_2 : decode bX10_high 2 = .ok (.aload_n 0, 1) := by decide +kernel
theorem dX10_high_3 : decode bX10_high 3 = .ok (.getfield 49, 3) := by decide +kernel
theorem dX10_high_6 : decode bX10_high 6 = .ok (.getfield 106, 3) := by decide +kernel
theorem dX10_high_9 : decode bX10_high 9 = .ok (.iload_n 2, 1) := by decide +kernel
theorem dX10_high_10 : decode bX10_high 10 = .ok (.invokevirtual 125, 3) := by decide +kernel
theorem dX10_high_13 : decode bX10_high 13 = .ok (.invokevirtual 314, 3) := by decide +kernel
theorem dX10_high_16 : decode bX10_high 16 = .ok (.istore_n 3, 1) := by decide +kernel
theorem dX10_high_17 : decode bX10_high 17 = .ok (.iload_n 3, 1) := by decide +kernel
theorem dX10_high_18 : decode bX10_high 18 = .ok (.ifCond .eq 7, 3) := by decide +kernel
theorem dX10_high_21 : decode bX10_high 21 = .ok (.iload_n 3, 1) := by decide +kernel
theorem dX10_high_22 : decode bX10_high 22 = .ok (.goto 16, 3) := by decide +kernel
theorem dX10_high_25 : decode bX10_high 25 = .ok (.aload_n 0, 1) := by decide +kernel
theorem dX10_high_26 : decode bX10_high 26 = .ok (.getfield 65, 3) := by decide +kernel
theorem dX10_high_29 : decode bX10_high 29 = .ok (.aload_n 0, 1) := by decide +kernel
theorem dX10_high_30 : decode bX10_high 30 = .ok (.iload_n 1, 1) := by decide +kernel
theorem dX10_high_31 : decode bX10_high 31 = .ok (.invokevirtual 318, 3) := by decide +kernel
theorem dX10_high_34 : decode bX10_high 34 = .ok (.iload_n 2, 1) := by decide +kernel
theorem dX10_high_35 : decode bX10_high 35 = .ok (.invokevirtual 329, 3) := by decide +kernel
theorem dX10_high_38 : decode bX10_high 38 = .ok (.ireturn, 1) := by decide +kernel
theorem dX10_thicks_0 : decode bX10_thicks 0 = .ok (.aload_n 0, 1) := by decide +kernel
theorem dX10_thicks_1 : decode bX10_thicks 1 = .ok (.iload_n 1, 1) := by decide +kernel
theorem dX10_thicks_2 : decode bX10_thicks 2 = .ok (.aload_n 0, 1) := by decide +kernel
theorem dX10_thicks_3 : decode bX10_thicks 3 = .ok (.getfield 49, 3) := by decide +kernel
theorem dX10_thicks_6 : decode bX10_thicks 6 = .ok (.getfield 106, 3) := by decide +kernel
theorem dX10_thicks_9 : decode bX10_thicks 9 = .ok (.iload_n 2, 1) := by decide +kernel
theorem dX10_thicks_10 : decode bX10_thicks 10 = .ok (.invokevirtual 132, 3) := by decide +kernel
theorem dX10_thicks_13 : decode bX10_thicks 13 = .ok (.invokevirtual 314, 3) := by decide +kernel
theorem dX10_thicks_16 : decode bX10_thicks 16 = .ok (.istore_n 3, 1) := by decide +kernel
theorem dX10_thicks_17 : decode bX10_thicks 17 = .ok (.iload_n 3, 1) := by decide +kernel
theorem dX10_thicks_18 : decode bX10_thicks 18 = .ok (.ifCond .eq 7, 3) := by decide +kernel
theorem dX10_thicks_21 : decode bX10_thicks 21 = .ok (.iload_n 3, 1) := by decide +kernel
theorem dX10_thicks_22 : decode bX10_thicks 22 = .ok (.goto 16, 3) := by decide +kernel
theorem dX10_thicks_25 : decode bX10_thicks 25 = .ok (.aload_n 0, 1) := by decide +kernel
theorem dX10_thicks_26 : decode bX10_thicks 26 = .ok (.getfield 65, 3) := by decide +kernel
theorem dX10_thicks_29 : decode bX10_thicks 29 = .ok (.aload_n 0, 1) := by decide +kernel
theorem dX10_thicks_30 : decode bX10_thicks 30 = .ok (.iload_n 1, 1) := by decide +kernel
theorem dX10_thicks_31 : decode bX10_thicks 31 = .ok (.invokevirtual 318, 3) := by decide +kernel
theorem dX10_thicks_34 : decode bX10_thicks 34 = .ok (.iload_n 2, 1) := by decide +kernel
theorem dX10_thicks_35 : decode bX10_thicks 35 = .ok (.invokevirtual 332, 3) := by decide +kernel
theorem dX10_thicks_38 : decode bX10_thicks 38 = .ok (.ireturn, 1) := by decide +kernel
theorem dX10_laws_0 : decode bX10_laws 0 = .ok (.aload_n 0, 1) := by decide +kernel
theorem dX10_laws_1 : decode bX10_laws 1 = .ok (.iload_n 1, 1) := by decide +kernel
theorem dX10_laws_2 : decode bX10_laws 2 = .ok (.aload_n 0, 1) := by decide +kernel
theorem dX10_laws_3 : decode bX10_laws 3 = .ok (.getfield 49, 3) := by decide +kernel
theorem dX10_laws_6 : decode bX10_laws 6 = .ok (.getfield 106, 3) := by decide +kernel
theorem dX10_laws_9 : decode bX10_laws 9 = .ok (.invokevirtual 202, 3) := by decide +kernel
theorem dX10_laws_12 : decode bX10_laws 12 = .ok (.invokevirtual 314, 3) := by decide +kernel
theorem dX10_laws_15 : decode bX10_laws 15 = .ok (.istore_n 2, 1) := by decide +kernel
theorem dX10_laws_16 : decode bX10_laws 16 = .ok (.iload_n 2, 1) := by decide +kernel
theorem dX10_laws_17 : decode bX10_laws 17 = .ok (.ifCond .eq 7, 3) := by decide +kernel
theorem dX10_laws_20 : decode bX10_laws 20 = .ok (.iload_n 2, 1) := by decide +kernel
theorem dX10_laws_21 : decode bX10_laws 21 = .ok (.goto 15, 3) := by decide +kernel
theorem dX10_laws_24 : decode bX10_laws 24 = .ok (.aload_n 0, 1) := by decide +kernel
theorem dX10_laws_25 : decode bX10_laws 25 = .ok (.getfield 65, 3) := by decide +kernel
theorem dX10_laws_28 : decode bX10_laws 28 = .ok (.aload_n 0, 1) := by decide +kernel
theorem dX10_laws_29 : decode bX10_laws 29 = .ok (.iload_n 1, 1) := by decide +kernel
theorem dX10_laws_30 : decode bX10_laws 30 = .ok (.invokevirtual 318, 3) := by decide +kernel
theorem dX10_laws_33 : decode bX10_laws 33 = .ok (.invokevirtual 335, 3) := by decide +kernel
theorem dX10_laws_36 : decode bX10_laws 36 = .ok (.ireturn, 1) := by decide +kernel
theorem dX10_refusalOfSeen_0 : decode bX10_refusalOfSeen 0 = .ok (.aload_n 0, 1) := by decide +kernel
theorem dX10_refusalOfSeen_1 : decode bX10_refusalOfSeen 1 = .ok (.iload_n 1, 1) := by decide +kernel
theorem dX10_refusalOfSeen_2 : decode bX10_refusalOfSeen 2 = .ok (.invokevirtual 318, 3) := by decide +kernel
theorem dX10_refusalOfSeen_5 : decode bX10_refusalOfSeen 5 = .ok (.astore_n 3, 1) := by decide +kernel
theorem dX10_refusalOfSeen_6 : decode bX10_refusalOfSeen 6 = .ok (.aload_n 3, 1) := by decide +kernel
theorem dX10_refusalOfSeen_7 : decode bX10_refusalOfSeen 7 = .ok (.ifnull 7, 3) := by decide +kernel
theorem dX10_refusalOfSeen_10 : decode bX10_refusalOfSeen 10 = .ok (.iload_n 2, 1) := by decide +kernel
theorem dX10_refusalOfSeen_11 : decode bX10_refusalOfSeen 11 = .ok (.ifCond .ne 6, 3) := by decide +kernel
theorem dX10_refusalOfSeen_14 : decode bX10_refusalOfSeen 14 = .ok (.bipush (-2), 2) := by decide +kernel
theorem dX10_refusalOfSeen_16 : decode bX10_refusalOfSeen 16 = .ok (.ireturn, 1) := by decide +kernel
theorem dX10_refusalOfSeen_17 : decode bX10_refusalOfSeen 17 = .ok (.aload_n 3, 1) := by decide +kernel
theorem dX10_refusalOfSeen_18 : decode bX10_refusalOfSeen 18 = .ok (.getfield 339, 3) := by decide +kernel
theorem dX10_refusalOfSeen_21 : decode bX10_refusalOfSeen 21 = .ok (.ifCond .ne 6, 3) := by decide +kernel
theorem dX10_refusalOfSeen_24 : decode bX10_refusalOfSeen 24 = .ok (.bipush (-6), 2) := by decide +kernel
theorem dX10_refusalOfSeen_26 : decode bX10_refusalOfSeen 26 = .ok (.ireturn, 1) := by decide +kernel
theorem dX10_refusalOfSeen_27 : decode bX10_refusalOfSeen 27 = .ok (.aload_n 3, 1) := by decide +kernel
theorem dX10_refusalOfSeen_28 : decode bX10_refusalOfSeen 28 = .ok (.aload_n 0, 1) := by decide +kernel
theorem dX10_refusalOfSeen_29 : decode bX10_refusalOfSeen 29 = .ok (.getfield 49, 3) := by decide +kernel
theorem dX10_refusalOfSeen_32 : decode bX10_refusalOfSeen 32 = .ok (.getfield 106, 3) := by decide +kernel
theorem dX10_refusalOfSeen_35 : decode bX10_refusalOfSeen 35 = .ok (.invokevirtual 342, 3) := by decide +kernel
theorem dX10_refusalOfSeen_38 : decode bX10_refusalOfSeen 38 = .ok (.ifCond .eq 7, 3) := by decide +kernel
theorem dX10_refusalOfSeen_41 : decode bX10_refusalOfSeen 41 = .ok (.iconst 0, 1) := by decide +kernel
theorem dX10_refusalOfSeen_42 : decode bX10_refusalOfSeen 42 = .ok (.goto 5, 3) := by decide +kernel
theorem dX10_refusalOfSeen_45 : decode bX10_refusalOfSeen 45 = .ok (.bipush (-2), 2) := by decide +kernel
theorem dX10_refusalOfSeen_47 : decode bX10_refusalOfSeen 47 = .ok (.ireturn, 1) := by decide +kernel
theorem dX10_by_0 : decode bX10_by 0 = .ok (.aload_n 0, 1) := by decide +kernel
theorem dX10_by_1 : decode bX10_by 1 = .ok (.getfield 49, 3) := by decide +kernel
theorem dX10_by_4 : decode bX10_by 4 = .ok (.getfield 106, 3) := by decide +kernel
theorem dX10_by_7 : decode bX10_by 7 = .ok (.invokevirtual 202, 3) := by decide +kernel
theorem dX10_by_10 : decode bX10_by 10 = .ok (.ifCond .eq 12, 3) := by decide +kernel
theorem dX10_by_13 : decode bX10_by 13 = .ok (.iload_n 1, 1) := by decide +kernel
theorem dX10_by_14 : decode bX10_by 14 = .ok (.ifCond .lt 8, 3) := by decide +kernel
theorem dX10_by_17 : decode bX10_by 17 = .ok (.iload_n 1, 1) := by decide +kernel
theorem dX10_by_18 : decode bX10_by 18 = .ok (.iconst 4, 1) := by decide +kernel
theorem dX10_by_19 : decode bX10_by 19 = .ok (.if_icmp .lt 6, 3) := by decide +kernel
theorem dX10_by_22 : decode bX10_by 22 = .ok (.bipush (-2), 2) := by decide +kernel
theorem dX10_by_24 : decode bX10_by 24 = .ok (.ireturn, 1) := by decide +kernel
theorem dX10_by_25 : decode bX10_by 25 = .ok (.aload_n 0, 1) := by decide +kernel
theorem dX10_by_26 : decode bX10_by 26 = .ok (.getfield 65, 3) := by decide +kernel
theorem dX10_by_29 : decode bX10_by 29 = .ok (.iload_n 1, 1) := by decide +kernel
theorem dX10_by_30 : decode bX10_by 30 = .ok (.invokevirtual 346, 3) := by decide +kernel
theorem dX10_by_33 : decode bX10_by 33 = .ok (.ireturn, 1) := by decide +kernel
theorem dX10_law_0 : decode bX10_law 0 = .ok (.aload_n 0, 1) := by decide +kernel
theorem dX10_law_1 : decode bX10_law 1 = .ok (.getfield 49, 3) := by decide +kernel
theorem dX10_law_4 : decode bX10_law 4 = .ok (.getfield 106, 3) := by decide +kernel
theorem dX10_law_7 : decode bX10_law 7 = .ok (.invokevirtual 202, 3) := by decide +kernel
theorem dX10_law_10 : decode bX10_law 10 = .ok (.ifCond .eq 13, 3) := by decide +kernel
theorem dX10_law_13 : decode bX10_law 13 = .ok (.aload_n 0, 1) := by decide +kernel
theorem dX10_law_14 : decode bX10_law 14 = .ok (.getfield 65, 3) := by decide +kernel
theorem dX10_law_17 : decode bX10_law 17 = .ok (.invokevirtual 349, 3) := by decide +kernel
theorem dX10_law_20 : decode bX10_law 20 = .ok (.goto 5, 3) := by decide +kernel
theorem dX10_law_23 : decode bX10_law 23 = .ok (.bipush (-2), 2) := by decide +kernel
theorem dX10_law_25 : decode bX10_law 25 = .ok (.ireturn, 1) := by decide +kernel
theorem dX10_worth_0 : decode bX10_worth 0 = .ok (.aload_n 0, 1) := by decide +kernel
theorem dX10_worth_1 : decode bX10_worth 1 = .ok (.getfield 49, 3) := by decide +kernel
theorem dX10_worth_4 : decode bX10_worth 4 = .ok (.getfield 106, 3) := by decide +kernel
theorem dX10_worth_7 : decode bX10_worth 7 = .ok (.invokevirtual 202, 3) := by decide +kernel
theorem dX10_worth_10 : decode bX10_worth 10 = .ok (.ifCond .eq 23, 3) := by decide +kernel
theorem dX10_worth_13 : decode bX10_worth 13 = .ok (.iload_n 1, 1) := by decide +kernel
theorem dX10_worth_14 : decode bX10_worth 14 = .ok (.ifCond .lt 19, 3) := by decide +kernel
theorem dX10_worth_17 : decode bX10_worth 17 = .ok (.iload_n 1, 1) := by decide +kernel
theorem dX10_worth_18 : decode bX10_worth 18 = .ok (.iconst 1, 1) := by decide +kernel
theorem dX10_worth_19 : decode bX10_worth 19 = .ok (.aload_n 0, 1) := by decide +kernel
theorem dX10_worth_20 : decode bX10_worth 20 = .ok (.getfield 49, 3) := by decide +kernel
theorem dX10_worth_23 : decode bX10_worth 23 = .ok (.getfield 106, 3) := by decide +kernel
theorem dX10_worth_26 : decode bX10_worth 26 = .ok (.getfield 237, 3) := by decide +kernel
theorem dX10_worth_29 : decode bX10_worth 29 = .ok (.ishl, 1) := by decide +kernel
theorem dX10_worth_30 : decode bX10_worth 30 = .ok (.if_icmp .lt 6, 3) := by decide +kernel
theorem dX10_worth_33 : decode bX10_worth 33 = .ok (.bipush (-2), 2) := by decide +kernel
theorem dX10_worth_35 : decode bX10_worth 35 = .ok (.ireturn, 1) := by decide +kernel
theorem dX10_worth_36 : decode bX10_worth 36 = .ok (.aload_n 0, 1) := by decide +kernel
theorem dX10_worth_37 : decode bX10_worth 37 = .ok (.getfield 65, 3) := by decide +kernel
theorem dX10_worth_40 : decode bX10_worth 40 = .ok (.iload_n 1, 1) := by decide +kernel
theorem dX10_worth_41 : decode bX10_worth 41 = .ok (.invokevirtual 352, 3) := by decide +kernel
theorem dX10_worth_44 : decode bX10_worth 44 = .ok (.ireturn, 1) := by decide +kernel
theorem dX10_share_0 : decode bX10_share 0 = .ok (.aload_n 0, 1) := by decide +kernel
theorem dX10_share_1 : decode bX10_share 1 = .ok (.getfield 49, 3) := by decide +kernel
theorem dX10_share_4 : decode bX10_share 4 = .ok (.getfield 106, 3) := by decide +kernel
theorem dX10_share_7 : decode bX10_share 7 = .ok (.iload_n 1, 1) := by decide +kernel
theorem dX10_share_8 : decode bX10_share 8 = .ok (.invokevirtual 125, 3) := by decide +kernel
theorem dX10_share_11 : decode bX10_share 11 = .ok (.ifCond .eq 10, 3) := by decide +kernel
theorem dX10_share_14 : decode bX10_share 14 = .ok (.iload_n 2, 1) := by decide +kernel
theorem dX10_share_15 : decode bX10_share 15 = .ok (.invokestatic 355, 3) := by decide +kernel
theorem dX10_share_18 : decode bX10_share 18 = .ok (.ifCond .eq 7, 3) := by decide +kernel
theorem dX10_share_21 : decode bX10_share 21 = .ok (.ldc_w 358, 3) := by decide +kernel
theorem dX10_share_24 : decode bX10_share 24 = .ok (.ireturn, 1) := by decide +kernel
theorem dX10_share_25 : decode bX10_share 25 = .ok (.aload_n 0, 1) := by decide +kernel
theorem dX10_share_26 : decode bX10_share 26 = .ok (.getfield 65, 3) := by decide +kernel
theorem dX10_share_29 : decode bX10_share 29 = .ok (.iload_n 1, 1) := by decide +kernel
theorem dX10_share_30 : decode bX10_share 30 = .ok (.invokevirtual 359, 3) := by decide +kernel
theorem dX10_share_33 : decode bX10_share 33 = .ok (.iload_n 2, 1) := by decide +kernel
theorem dX10_share_34 : decode bX10_share 34 = .ok (.invokevirtual 363, 3) := by decide +kernel
theorem dX10_share_37 : decode bX10_share 37 = .ok (.l2i, 1) := by decide +kernel
theorem dX10_share_38 : decode bX10_share 38 = .ok (.ireturn, 1) := by decide +kernel
theorem dX10_rests_0 : decode bX10_rests 0 = .ok (.aload_n 0, 1) := by decide +kernel
theorem dX10_rests_1 : decode bX10_rests 1 = .ok (.iload_n 1, 1) := by decide +kernel
theorem dX10_rests_2 : decode bX10_rests 2 = .ok (.iload_n 2, 1) := by decide +kernel
theorem dX10_rests_3 : decode bX10_rests 3 = .ok (.invokevirtual 369, 3) := by decide +kernel
theorem dX10_rests_6 : decode bX10_rests 6 = .ok (.ifCond .eq 15, 3) := by decide +kernel
theorem dX10_rests_9 : decode bX10_rests 9 = .ok (.aload_n 0, 1) := by decide +kernel
theorem dX10_rests_10 : decode bX10_rests 10 = .ok (.getfield 65, 3) := by decide +kernel
theorem dX10_rests_13 : decode bX10_rests 13 = .ok (.iload_n 1, 1) := by decide +kernel
theorem dX10_rests_14 : decode bX10_rests 14 = .ok (.iload_n 2, 1) := by decide +kernel
theorem dX10_rests_15 : decode bX10_rests 15 = .ok (.invokevirtual 373, 3) := by decide +kernel
theorem dX10_rests_18 : decode bX10_rests 18 = .ok (.goto 5, 3) := by decide +kernel
theorem dX10_rests_21 : decode bX10_rests 21 = .ok (.bipush (-2), 2) := by decide +kernel
theorem dX10_rests_23 : decode bX10_rests 23 = .ok (.ireturn, 1) := by decide +kernel
theorem dX10_gets_0 : decode bX10_gets 0 = .ok (.aload_n 0, 1) := by decide +kernel
theorem dX10_gets_1 : decode bX10_gets 1 = .ok (.iload_n 1, 1) := by decide +kernel
theorem dX10_gets_2 : decode bX10_gets 2 = .ok (.iload_n 2, 1) := by decide +kernel
theorem dX10_gets_3 : decode bX10_gets 3 = .ok (.invokevirtual 369, 3) := by decide +kernel
theorem dX10_gets_6 : decode bX10_gets 6 = .ok (.ifCond .eq 11, 3) := by decide +kernel
theorem dX10_gets_9 : decode bX10_gets 9 = .ok (.iload 5, 2) := by decide +kernel
theorem dX10_gets_11 : decode bX10_gets 11 = .ok (.invokestatic 355, 3) := by decide +kernel
theorem dX10_gets_14 : decode bX10_gets 14 = .ok (.ifCond .eq 7, 3) := by decide +kernel
theorem dX10_gets_17 : decode bX10_gets 17 = .ok (.sipush (-1000), 3) := by decide +kernel
theorem dX10_gets_20 : decode bX10_gets 20 = .ok (.ireturn, 1) := by decide +kernel
theorem dX10_gets_21 : decode bX10_gets 21 = .ok (.iload_n 3, 1) := by decide +kernel
theorem dX10_gets_22 : decode bX10_gets 22 = .ok (.ifCond .lt 19, 3) := by decide +kernel
theorem dX10_gets_25 : decode bX10_gets 25 = .ok (.iload_n 3, 1) := by decide +kernel
theorem dX10_gets_26 : decode bX10_gets 26 = .ok (.iconst 1, 1) := by decide +kernel
theorem dX10_gets_27 : decode bX10_gets 27 = .ok (.if_icmp .gt 14, 3) := by decide +kernel
theorem dX10_gets_30 : decode bX10_gets 30 = .ok (.iload 4, 2) := by decide +kernel
theorem dX10_gets_32 : decode bX10_gets 32 = .ok (.ifCond .lt 9, 3) := by decide +kernel
theorem dX10_gets_35 : decode bX10_gets 35 = .ok (.iload 4, 2) := by decide +kernel
theorem dX10_gets_37 : decode bX10_gets 37 = .ok (.iconst 1, 1) := by decide +kernel
theorem dX10_gets_38 : decode bX10_gets 38 = .ok (.if_icmp .le 7, 3) := by decide +kernel
theorem dX10_gets_41 : decode bX10_gets 41 = .ok (.sipush (-1000), 3) := by decide +kernel
theorem dX10_gets_44 : decode bX10_gets 44 = .ok (.ireturn, 1) := by decide +kernel
theorem dX10_gets_45 : decode bX10_gets 45 = .ok (.aload_n 0, 1) := by decide +kernel
theorem dX10_gets_46 : decode bX10_gets 46 = .ok (.getfield 65, 3) := by decide +kernel
theorem dX10_gets_49 : decode bX10_gets 49 = .ok (.iload_n 1, 1) := by decide +kernel
theorem dX10_gets_50 : decode bX10_gets 50 = .ok (.iload_n 2, 1) := by decide +kernel
theorem dX10_gets_51 : decode bX10_gets 51 = .ok (.iload_n 3, 1) := by decide +kernel
theorem dX10_gets_52 : decode bX10_gets 52 = .ok (.iconst 2, 1) := by decide +kernel
theorem dX10_gets_53 : decode bX10_gets 53 = .ok (.iload 4, 2) := by decide +kernel
theorem dX10_gets_55 : decode bX10_gets 55 = .ok (.imul, 1) := by decide +kernel
theorem dX10_gets_56 : decode bX10_gets 56 = .ok (.iadd, 1) := by decide +kernel
theorem dX10_gets_57 : decode bX10_gets 57 = .ok (.iload 5, 2) := by decide +kernel
theorem dX10_gets_59 : decode bX10_gets 59 = .ok (.invokevirtual 376, 3) := by decide +kernel
theorem dX10_gets_62 : decode bX10_gets 62 = .ok (.ireturn, 1) := by decide +kernel
theorem dX10_isPairOfZones_0 : decode bX10_isPairOfZones 0 = .ok (.aload_n 0, 1) := by decide +kernel
theorem dX10_isPairOfZones_1 : decode bX10_isPairOfZones 1 = .ok (.getfield 49, 3) := by decide +kernel
theorem dX10_isPairOfZones_4 : decode bX10_isPairOfZones 4 = .ok (.getfield 106, 3) := by decide +kernel
theorem dX10_isPairOfZones_7 : decode bX10_isPairOfZones 7 = .ok (.iload_n 1, 1) := by decide +kernel
theorem dX10_isPairOfZones_8 : decode bX10_isPairOfZones 8 = .ok (.invokevirtual 125, 3) := by decide +kernel
theorem dX10_isPairOfZones_11 : decode bX10_isPairOfZones 11 = .ok (.ifCond .eq 26, 3) := by decide +kernel
theorem dX10_isPairOfZones_14 : decode bX10_isPairOfZones 14 = .ok (.aload_n 0, 1) := by decide +kernel
theorem dX10_isPairOfZones_15 : decode bX10_isPairOfZones 15 = .ok (.getfield 49, 3) := by decide +kernel
theorem dX10_isPairOfZones_18 : decode bX10_isPairOfZones 18 = .ok (.getfield 106, 3) := by decide +kernel
theorem dX10_isPairOfZones_21 : decode bX10_isPairOfZones 21 = .ok (.iload_n 2, 1) := by decide +kernel
theorem dX10_isPairOfZones_22 : decode bX10_isPairOfZones 22 = .ok (.invokevirtual 125, 3) := by decide +kernel
theorem dX10_isPairOfZones_25 : decode bX10_isPairOfZones 25 = .ok (.ifCond .eq 12, 3) := by decide +kernel
theorem dX10_isPairOfZones_28 : decode bX10_isPairOfZones 28 = .ok (.iload_n 1, 1) := by decide +kernel
theorem dX10_isPairOfZones_29 : decode bX10_isPairOfZones 29 = .ok (.iload_n 2, 1) := by decide +kernel
theorem dX10_isPairOfZones_30 : decode bX10_isPairOfZones 30 = .ok (.if_icmp .eq 7, 3) := by decide +kernel
theorem dX10_isPairOfZones_33 : decode bX10_isPairOfZones 33 = .ok (.iconst 1, 1) := by decide +kernel
theorem dX10_isPairOfZones_34 : decode bX10_isPairOfZones 34 = .ok (.goto 4, 3) := by decide +kernel
theorem dX10_isPairOfZones_37 : decode bX10_isPairOfZones 37 = .ok (.iconst 0, 1) := by decide +kernel
theorem dX10_isPairOfZones_38 : decode bX10_isPairOfZones 38 = .ok (.ireturn, 1) := by decide +kernel
theorem dX10_isNoPart_0 : decode bX10_isNoPart 0 = .ok (.iload_n 0, 1) := by decide +kernel
theorem dX10_isNoPart_1 : decode bX10_isNoPart 1 = .ok (.ifCond .eq 12, 3) := by decide +kernel
theorem dX10_isNoPart_4 : decode bX10_isNoPart 4 = .ok (.iload_n 0, 1) := by decide +kernel
theorem dX10_isNoPart_5 : decode bX10_isNoPart 5 = .ok (.iconst 1, 1) := by decide +kernel
theorem dX10_isNoPart_6 : decode bX10_isNoPart 6 = .ok (.if_icmp .eq 7, 3) := by decide +kernel
theorem dX10_isNoPart_9 : decode bX10_isNoPart 9 = .ok (.iconst 1, 1) := by decide +kernel
theorem dX10_isNoPart_10 : decode bX10_isNoPart 10 = .ok (.goto 4, 3) := by decide +kernel
theorem dX10_isNoPart_13 : decode bX10_isNoPart 13 = .ok (.iconst 0, 1) := by decide +kernel
theorem dX10_isNoPart_14 : decode bX10_isNoPart 14 = .ok (.ireturn, 1) := by decide +kernel
theorem dX10_chance_0 : decode bX10_chance 0 = .ok (.aload_n 0, 1) := by decide +kernel
theorem dX10_chance_1 : decode bX10_chance 1 = .ok (.getfield 49, 3) := by decide +kernel
theorem dX10_chance_4 : decode bX10_chance 4 = .ok (.getfield 106, 3) := by decide +kernel
theorem dX10_chance_7 : decode bX10_chance 7 = .ok (.iload_n 1, 1) := by decide +kernel
theorem dX10_chance_8 : decode bX10_chance 8 = .ok (.invokevirtual 132, 3) := by decide +kernel
theorem dX10_chance_11 : decode bX10_chance 11 = .ok (.ifCond .eq 18, 3) := by decide +kernel
theorem dX10_chance_14 : decode bX10_chance 14 = .ok (.aload_n 0, 1) := by decide +kernel
theorem dX10_chance_15 : decode bX10_chance 15 = .ok (.iload_n 2, 1) := by decide +kernel
theorem dX10_chance_16 : decode bX10_chance 16 = .ok (.invokevirtual 380, 3) := by decide +kernel
theorem dX10_chance_19 : decode bX10_chance 19 = .ok (.ifCond .eq 10, 3) := by decide +kernel
theorem dX10_chance_22 : decode bX10_chance 22 = .ok (.iload_n 3, 1) := by decide +kernel
theorem dX10_chance_23 : decode bX10_chance 23 = .ok (.invokestatic 355, 3) := by decide +kernel
theorem dX10_chance_26 : decode bX10_chance 26 = .ok (.ifCond .eq 6, 3) := by decide +kernel
theorem dX10_chance_29 : decode bX10_chance 29 = .ok (.bipush (-2), 2) := by decide +kernel
theorem dX10_chance_31 : decode bX10_chance 31 = .ok (.ireturn, 1) := by decide +kernel
theorem dX10_chance_32 : decode bX10_chance 32 = .ok (.aload_n 0, 1) := by decide +kernel
theorem dX10_chance_33 : decode bX10_chance 33 = .ok (.getfield 72, 3) := by decide +kernel
theorem dX10_chance_36 : decode bX10_chance 36 = .ok (.iconst 1, 1) := by decide +kernel
theorem dX10_chance_37 : decode bX10_chance 37 = .ok (.iload_n 1, 1) := by decide +kernel
theorem dX10_chance_38 : decode bX10_chance 38 = .ok (.ishl, 1) := by decide +kernel
theorem dX10_chance_39 : decode bX10_chance 39 = .ok (.iload_n 2, 1) := by decide +kernel
theorem dX10_chance_40 : decode bX10_chance 40 = .ok (.invokevirtual 383, 3) := by decide +kernel
theorem dX10_chance_43 : decode bX10_chance 43 = .ok (.iload_n 3, 1) := by decide +kernel
theorem dX10_chance_44 : decode bX10_chance 44 = .ok (.invokevirtual 363, 3) := by decide +kernel
theorem dX10_chance_47 : decode bX10_chance 47 = .ok (.l2i, 1) := by decide +kernel
theorem dX10_chance_48 : decode bX10_chance 48 = .ok (.ireturn, 1) := by decide +kernel
theorem dX10_mean_0 : decode bX10_mean 0 = .ok (.aload_n 0, 1) := by decide +kernel
theorem dX10_mean_1 : decode bX10_mean 1 = .ok (.iload_n 1, 1) := by decide +kernel
theorem dX10_mean_2 : decode bX10_mean 2 = .ok (.invokevirtual 380, 3) := by decide +kernel
theorem dX10_mean_5 : decode bX10_mean 5 = .ok (.ifCond .eq 10, 3) := by decide +kernel
theorem dX10_mean_8 : decode bX10_mean 8 = .ok (.iload_n 2, 1) := by decide +kernel
theorem dX10_mean_9 : decode bX10_mean 9 = .ok (.invokestatic 355, 3) := by decide +kernel
theorem dX10_mean_12 : decode bX10_mean 12 = .ok (.ifCond .eq 7, 3) := by decide +kernel
theorem dX10_mean_15 : decode bX10_mean 15 = .ok (.ldc2_w 387, 3) := by decide +kernel
theorem dX10_mean_18 : decode bX10_mean 18 = .ok (.lreturn, 1) := by decide +kernel
theorem dX10_mean_19 : decode bX10_mean 19 = .ok (.aload_n 0, 1) := by decide +kernel
theorem dX10_mean_20 : decode bX10_mean 20 = .ok (.getfield 72, 3) := by decide +kernel
theorem dX10_mean_23 : decode bX10_mean 23 = .ok (.bipush 63, 2) := by decide +kernel
theorem dX10_mean_25 : decode bX10_mean 25 = .ok (.iload_n 1, 1) := by decide +kernel
theorem dX10_mean_26 : decode bX10_mean 26 = .ok (.invokevirtual 383, 3) := by decide +kernel
theorem dX10_mean_29 : decode bX10_mean 29 = .ok (.iload_n 2, 1) := by decide +kernel
theorem dX10_mean_30 : decode bX10_mean 30 = .ok (.invokevirtual 363, 3) := by decide +kernel
theorem dX10_mean_33 : decode bX10_mean 33 = .ok (.lreturn, 1) := by decide +kernel
theorem dX10_isChanceStep_0 : decode bX10_isChanceStep 0 = .ok (.iload_n 1, 1) := by decide +kernel
theorem dX10_isChanceStep_1 : decode bX10_isChanceStep 1 = .ok (.iconst 1, 1) := by decide +kernel
theorem dX10_isChanceStep_2 : decode bX10_isChanceStep 2 = .ok (.if_icmp .lt 27, 3) := by decide +kernel
theorem dX10_isChanceStep_5 : decode bX10_isChanceStep 5 = .ok (.iload_n 1, 1) := by decide +kernel
theorem dX10_isChanceStep_6 : decode bX10_isChanceStep 6 = .ok (.bipush 8, 2) := by decide +kernel
theorem dX10_isChanceStep_8 : decode bX10_isChanceStep 8 = .ok (.if_icmp .gt 21, 3) := by decide +kernel
theorem dX10_isChanceStep_11 : decode bX10_isChanceStep 11 = .ok (.aload_n 0, 1) := by decide +kernel
theorem dX10_isChanceStep_12 : decode bX10_isChanceStep 12 = .ok (.getfield 49, 3) := by decide +kernel
theorem dX10_isChanceStep_15 : decode bX10_isChanceStep 15 = .ok (.getfield 106, 3) := by decide +kernel
theorem dX10_isChanceStep_18 : decode bX10_isChanceStep 18 = .ok (.iload_n 1, 1) := by decide +kernel
theorem dX10_isChanceStep_19 : decode bX10_isChanceStep 19 = .ok (.invokevirtual 147, 3) := by decide +kernel
theorem dX10_isChanceStep_22 : decode bX10_isChanceStep 22 = .ok (.ifCond .eq 7, 3) := by decide +kernel
theorem dX10_isChanceStep_25 : decode bX10_isChanceStep 25 = .ok (.iconst 1, 1) := by decide +kernel
theorem dX10_isChanceStep_26 : decode bX10_isChanceStep 26 = .ok (.goto 4, 3) := by decide +kernel
theorem dX10_isChanceStep_29 : decode bX10_isChanceStep 29 = .ok (.iconst 0, 1) := by decide +kernel
theorem dX10_isChanceStep_30 : decode bX10_isChanceStep 30 = .ok (.ireturn, 1) := by decide +kernel
theorem dX10_fires_0 : decode bX10_fires 0 = .ok (.aload_n 0, 1) := by decide +kernel
theorem dX10_fires_1 : decode bX10_fires 1 = .ok (.getfield 49, 3) := by decide +kernel
theorem dX10_fires_4 : decode bX10_fires 4 = .ok (.getfield 106, 3) := by decide +kernel
theorem dX10_fires_7 : decode bX10_fires 7 = .ok (.iload_n 1, 1) := by decide +kernel
theorem dX10_fires_8 : decode bX10_fires 8 = .ok (.invokevirtual 125, 3) := by decide +kernel
theorem dX10_fires_11 : decode bX10_fires 11 = .ok (.ifCond .eq 29, 3) := by decide +kernel
theorem dX10_fires_14 : decode bX10_fires 14 = .ok (.iload_n 2, 1) := by decide +kernel
theorem dX10_fires_15 : decode bX10_fires 15 = .ok (.iconst 1, 1) := by decide +kernel
theorem dX10_fires_16 : decode bX10_fires 16 = .ok (.if_icmp .lt 24, 3) := by decide +kernel
theorem dX10_fires_19 : decode bX10_fires 19 = .ok (.iload_n 2, 1) := by decide +kernel
theorem dX10_fires_20 : decode bX10_fires 20 = .ok (.sipush 200, 3) := by decide +kernel
theorem dX10_fires_23 : decode bX10_fires 23 = .ok (.if_icmp .gt 17, 3) := by decide +kernel
theorem dX10_fires_26 : decode bX10_fires 26 = .ok (.aload_n 0, 1) := by decide +kernel
theorem dX10_fires_27 : decode bX10_fires 27 = .ok (.getfield 49, 3) := by decide +kernel
theorem dX10_fires_30 : decode bX10_fires 30 = .ok (.getfield 106, 3) := by decide +kernel
theorem dX10_fires_33 : decode bX10_fires 33 = .ok (.iload_n 3, 1) := by decide +kernel
theorem dX10_fires_34 : decode bX10_fires 34 = .ok (.invokevirtual 147, 3) := by decide +kernel
theorem dX10_fires_37 : decode bX10_fires 37 = .ok (.ifCond .ne 6, 3) := by decide +kernel
theorem dX10_fires_40 : decode bX10_fires 40 = .ok (.bipush (-2), 2) := by decide +kernel
theorem dX10_fires_42 : decode bX10_fires 42 = .ok (.ireturn, 1) := by decide +kernel
theorem dX10_fires_43 : decode bX10_fires 43 = .ok (.aload_n 0, 1) := by decide +kernel
theorem dX10_fires_44 : decode bX10_fires 44 = .ok (.getfield 49, 3) := by decide +kernel
theorem dX10_fires_47 : decode bX10_fires 47 = .ok (.getfield 112, 3) := by decide +kernel
theorem dX10_fires_50 : decode bX10_fires 50 = .ok (.iload_n 1, 1) := by decide +kernel
theorem dX10_fires_51 : decode bX10_fires 51 = .ok (.iload_n 2, 1) := by decide +kernel
theorem dX10_fires_52 : decode bX10_fires 52 = .ok (.iload_n 3, 1) := by decide +kernel
theorem dX10_fires_53 : decode bX10_fires 53 = .ok (.invokevirtual 389, 3) := by decide +kernel
theorem dX10_fires_56 : decode bX10_fires 56 = .ok (.ifCond .ne 6, 3) := by decide +kernel
theorem dX10_fires_59 : decode bX10_fires 59 = .ok (.bipush (-5), 2) := by decide +kernel
theorem dX10_fires_61 : decode bX10_fires 61 = .ok (.ireturn, 1) := by decide +kernel
theorem dX10_fires_62 : decode bX10_fires 62 = .ok (.aload_n 0, 1) := by decide +kernel
theorem dX10_fires_63 : decode bX10_fires 63 = .ok (.iconst 0, 1) := by decide +kernel
theorem dX10_fires_64 : decode bX10_fires 64 = .ok (.putfield 77, 3) := by decide +kernel
theorem dX10_fires_67 : decode bX10_fires 67 = .ok (.aload_n 0, 1) := by decide +kernel
theorem dX10_fires_68 : decode bX10_fires 68 = .ok (.invokevirtual 393, 3) := by decide +kernel
theorem dX10_fires_71 : decode bX10_fires 71 = .ok (.ireturn, 1) := by decide +kernel
theorem dX10_gusts_0 : decode bX10_gusts 0 = .ok (.aload_n 0, 1) := by decide +kernel
theorem dX10_gusts_1 : decode bX10_gusts 1 = .ok (.getfield 49, 3) := by decide +kernel
theorem dX10_gusts_4 : decode bX10_gusts 4 = .ok (.getfield 106, 3) := by decide +kernel
theorem dX10_gusts_7 : decode bX10_gusts 7 = .ok (.iload_n 1, 1) := by decide +kernel
theorem dX10_gusts_8 : decode bX10_gusts 8 = .ok (.invokevirtual 262, 3) := by decide +kernel
theorem dX10_gusts_11 : decode bX10_gusts 11 = .ok (.ifCond .ne 6, 3) := by decide +kernel
theorem dX10_gusts_14 : decode bX10_gusts 14 = .ok (.bipush (-2), 2) := by decide +kernel
theorem dX10_gusts_16 : decode bX10_gusts 16 = .ok (.ireturn, 1) := by decide +kernel
theorem dX10_gusts_17 : decode bX10_gusts 17 = .ok (.aload_n 0, 1) := by decide +kernel
theorem dX10_gusts_18 : decode bX10_gusts 18 = .ok (.getfield 49, 3) := by decide +kernel
theorem dX10_gusts_21 : decode bX10_gusts 21 = .ok (.getfield 112, 3) := by decide +kernel
theorem dX10_gusts_24 : decode bX10_gusts 24 = .ok (.iload_n 1, 1) := by decide +kernel
theorem dX10_gusts_25 : decode bX10_gusts 25 = .ok (.invokevirtual 396, 3) := by decide +kernel
theorem dX10_gusts_28 : decode bX10_gusts 28 = .ok (.ifCond .ne 6, 3) := by decide +kernel
theorem dX10_gusts_31 : decode bX10_gusts 31 = .ok (.bipush (-5), 2) := by decide +kernel
theorem dX10_gusts_33 : decode bX10_gusts 33 = .ok (.ireturn, 1) := by decide +kernel
theorem dX10_gusts_34 : decode bX10_gusts 34 = .ok (.aload_n 0, 1) := by decide +kernel
theorem dX10_gusts_35 : decode bX10_gusts 35 = .ok (.iconst 0, 1) := by decide +kernel
theorem dX10_gusts_36 : decode bX10_gusts 36 = .ok (.putfield 77, 3) := by decide +kernel
theorem dX10_gusts_39 : decode bX10_gusts 39 = .ok (.aload_n 0, 1) := by decide +kernel
theorem dX10_gusts_40 : decode bX10_gusts 40 = .ok (.invokevirtual 393, 3) := by decide +kernel
theorem dX10_gusts_43 : decode bX10_gusts 43 = .ok (.ireturn, 1) := by decide +kernel
theorem dX10_undo_0 : decode bX10_undo 0 = .ok (.aload_n 0, 1) := by decide +kernel
theorem dX10_undo_1 : decode bX10_undo 1 = .ok (.getfield 49, 3) := by decide +kernel
theorem dX10_undo_4 : decode bX10_undo 4 = .ok (.getfield 106, 3) := by decide +kernel
theorem dX10_undo_7 : decode bX10_undo 7 = .ok (.invokevirtual 202, 3) := by decide +kernel
theorem dX10_undo_10 : decode bX10_undo 10 = .ok (.ifCond .ne 6, 3) := by decide +kernel
theorem dX10_undo_13 : decode bX10_undo 13 = .ok (.bipush (-2), 2) := by decide +kernel
theorem dX10_undo_15 : decode bX10_undo 15 = .ok (.ireturn, 1) := by decide +kernel
theorem dX10_undo_16 : decode bX10_undo 16 = .ok (.aload_n 0, 1) := by decide +kernel
theorem dX10_undo_17 : decode bX10_undo 17 = .ok (.getfield 49, 3) := by decide +kernel
theorem dX10_undo_20 : decode bX10_undo 20 = .ok (.getfield 112, 3) := by decide +kernel
theorem dX10_undo_23 : decode bX10_undo 23 = .ok (.invokevirtual 399, 3) := by decide +kernel
theorem dX10_undo_26 : decode bX10_undo 26 = .ok (.ifCond .ne 6, 3) := by decide +kernel
theorem dX10_undo_29 : decode bX10_undo 29 = .ok (.bipush (-5), 2) := by decide +kernel
theorem dX10_undo_31 : decode bX10_undo 31 = .ok (.ireturn, 1) := by decide +kernel
theorem dX10_undo_32 : decode bX10_undo 32 = .ok (.aload_n 0, 1) := by decide +kernel
theorem dX10_undo_33 : decode bX10_undo 33 = .ok (.iconst 0, 1) := by decide +kernel
theorem dX10_undo_34 : decode bX10_undo 34 = .ok (.putfield 77, 3) := by decide +kernel
theorem dX10_undo_37 : decode bX10_undo 37 = .ok (.aload_n 0, 1) := by decide +kernel
theorem dX10_undo_38 : decode bX10_undo 38 = .ok (.getfield 49, 3) := by decide +kernel
theorem dX10_undo_41 : decode bX10_undo 41 = .ok (.getfield 112, 3) := by decide +kernel
theorem dX10_undo_44 : decode bX10_undo 44 = .ok (.getfield 402, 3) := by decide +kernel
theorem dX10_undo_47 : decode bX10_undo 47 = .ok (.ireturn, 1) := by decide +kernel
theorem dX10_anew_0 : decode bX10_anew 0 = .ok (.aload_n 0, 1) := by decide +kernel
theorem dX10_anew_1 : decode bX10_anew 1 = .ok (.getfield 49, 3) := by decide +kernel
theorem dX10_anew_4 : decode bX10_anew 4 = .ok (.getfield 106, 3) := by decide +kernel
theorem dX10_anew_7 : decode bX10_anew 7 = .ok (.invokevirtual 202, 3) := by decide +kernel
theorem dX10_anew_10 : decode bX10_anew 10 = .ok (.ifCond .ne 6, 3) := by decide +kernel
theorem dX10_anew_13 : decode bX10_anew 13 = .ok (.bipush (-2), 2) := by decide +kernel
theorem dX10_anew_15 : decode bX10_anew 15 = .ok (.ireturn, 1) := by decide +kernel
theorem dX10_anew_16 : decode bX10_anew 16 = .ok (.aload_n 0, 1) := by decide +kernel
theorem dX10_anew_17 : decode bX10_anew 17 = .ok (.getfield 49, 3) := by decide +kernel
theorem dX10_anew_20 : decode bX10_anew 20 = .ok (.getfield 112, 3) := by decide +kernel
theorem dX10_anew_23 : decode bX10_anew 23 = .ok (.getfield 402, 3) := by decide +kernel
theorem dX10_anew_26 : decode bX10_anew 26 = .ok (.istore_n 1, 1) := by decide +kernel
theorem dX10_anew_27 : decode bX10_anew 27 = .ok (.aload_n 0, 1) := by decide +kernel
theorem dX10_anew_28 : decode bX10_anew 28 = .ok (.getfield 49, 3) := by decide +kernel
theorem dX10_anew_31 : decode bX10_anew 31 = .ok (.getfield 112, 3) := by decide +kernel
theorem dX10_anew_34 : decode bX10_anew 34 = .ok (.invokevirtual 116, 3) := by decide +kernel
theorem dX10_anew_37 : decode bX10_anew 37 = .ok (.aload_n 0, 1) := by decide +kernel
theorem dX10_anew_38 : decode bX10_anew 38 = .ok (.iconst 0, 1) := by decide +kernel
theorem dX10_anew_39 : decode bX10_anew 39 = .ok (.putfield 77, 3) := by decide +kernel
theorem dX10_anew_42 : decode bX10_anew 42 = .ok (.iload_n 1, 1) := by decide +kernel
theorem dX10_anew_43 : decode bX10_anew 43 = .ok (.ireturn, 1) := by decide +kernel
theorem dX10_soundNow_0 : decode bX10_soundNow 0 = .ok (.aload_n 0, 1) := by decide +kernel
theorem dX10_soundNow_1 : decode bX10_soundNow 1 = .ok (.invokevirtual 171, 3) := by decide +kernel
theorem dX10_soundNow_4 : decode bX10_soundNow 4 = .ok (.invokevirtual 206, 3) := by decide +kernel
theorem dX10_soundNow_7 : decode bX10_soundNow 7 = .ok (.invokestatic 240, 3) := by decide +kernel
theorem dX10_soundNow_10 : decode bX10_soundNow 10 = .ok (.ireturn, 1) := by decide +kernel
theorem dX10_drawn_0 : decode bX10_drawn 0 = .ok (.aload_n 0, 1) := by decide +kernel
theorem dX10_drawn_1 : decode bX10_drawn 1 = .ok (.getfield 49, 3) := by decide +kernel
theorem dX10_drawn_4 : decode bX10_drawn 4 = .ok (.getfield 106, 3) := by decide +kernel
theorem dX10_drawn_7 : decode bX10_drawn 7 = .ok (.invokevirtual 202, 3) := by decide +kernel
theorem dX10_drawn_10 : decode bX10_drawn 10 = .ok (.ifCond .eq 21, 3) := by decide +kernel
theorem dX10_drawn_13 : decode bX10_drawn 13 = .ok (.iload_n 1, 1) := by decide +kernel
theorem dX10_drawn_14 : decode bX10_drawn 14 = .ok (.ifCond .lt 17, 3) := by decide +kernel
theorem dX10_drawn_17 : decode bX10_drawn 17 = .ok (.iload_n 1, 1) := by decide +kernel
theorem dX10_drawn_18 : decode bX10_drawn 18 = .ok (.ldc_w 405, 3) := by decide +kernel
theorem dX10_drawn_21 : decode bX10_drawn 21 = .ok (.if_icmp .gt 10, 3) := by decide +kernel
theorem dX10_drawn_24 : decode bX10_drawn 24 = .ok (.iload_n 2, 1) := by decide +kernel
theorem dX10_drawn_25 : decode bX10_drawn 25 = .ok (.invokestatic 355, 3) := by decide +kernel
theorem dX10_drawn_28 : decode bX10_drawn 28 = .ok (.ifCond .eq 6, 3) := by decide +kernel
theorem dX10_drawn_31 : decode bX10_drawn 31 = .ok (.bipush (-2), 2) := by decide +kernel
theorem dX10_drawn_33 : decode bX10_drawn 33 = .ok (.ireturn, 1) := by decide +kernel
theorem dX10_drawn_34 : decode bX10_drawn 34 = .ok (.iload_n 2, 1) := by decide +kernel
theorem dX10_drawn_35 : decode bX10_drawn 35 = .ok (.ifCond .ne 15, 3) := by decide +kernel
theorem dX10_drawn_38 : decode bX10_drawn 38 = .ok (.aload_n 0, 1) := by decide +kernel
theorem dX10_drawn_39 : decode bX10_drawn 39 = .ok (.getfield 72, 3) := by decide +kernel
theorem dX10_drawn_42 : decode bX10_drawn 42 = .ok (.iload_n 1, 1) := by decide +kernel
theorem dX10_drawn_43 : decode bX10_drawn 43 = .ok (.i2l, 1) := by decide +kernel
theorem dX10_drawn_44 : decode bX10_drawn 44 = .ok (.invokevirtual 406, 3) := by decide +kernel
theorem dX10_drawn_47 : decode bX10_drawn 47 = .ok (.goto 12, 3) := by decide +kernel
theorem dX10_drawn_50 : decode bX10_drawn 50 = .ok (.aload_n 0, 1) := by decide +kernel
theorem dX10_drawn_51 : decode bX10_drawn 51 = .ok (.getfield 72, 3) := by decide +kernel
theorem dX10_drawn_54 : decode bX10_drawn 54 = .ok (.iload_n 1, 1) := by decide +kernel
theorem dX10_drawn_55 : decode bX10_drawn 55 = .ok (.i2l, 1) := by decide +kernel
theorem dX10_drawn_56 : decode bX10_drawn 56 = .ok (.invokevirtual 410, 3) := by decide +kernel
theorem dX10_drawn_59 : decode bX10_drawn 59 = .ok (.ireturn, 1) := by decide +kernel
theorem dX10_luck_0 : decode bX10_luck 0 = .ok (.aload_n 0, 1) := by decide +kernel
theorem dX10_luck_1 : decode bX10_luck 1 = .ok (.getfield 49, 3) := by decide +kernel
theorem dX10_luck_4 : decode bX10_luck 4 = .ok (.getfield 106, 3) := by decide +kernel
theorem dX10_luck_7 : decode bX10_luck 7 = .ok (.iload_n 3, 1) := by decide +kernel
theorem dX10_luck_8 : decode bX10_luck 8 = .ok (.invokevirtual 132, 3) := by decide +kernel
theorem dX10_luck_11 : decode bX10_luck 11 = .ok (.ifCond .eq 14, 3) := by decide +kernel
theorem dX10_luck_14 : decode bX10_luck 14 = .ok (.iload_n 1, 1) := by decide +kernel
theorem dX10_luck_15 : decode bX10_luck 15 = .ok (.ifCond .lt 10, 3) := by decide +kernel
theorem dX10_luck_18 : decode bX10_luck 18 = .ok (.iload_n 1, 1) := by decide +kernel
theorem dX10_luck_19 : decode bX10_luck 19 = .ok (.ldc_w 405, 3) := by decide +kernel
theorem dX10_luck_22 : decode bX10_luck 22 = .ok (.if_icmp .le 6, 3) := by decide +kernel
theorem dX10_luck_25 : decode bX10_luck 25 = .ok (.bipush (-2), 2) := by decide +kernel
theorem dX10_luck_27 : decode bX10_luck 27 = .ok (.ireturn, 1) := by decide +kernel
theorem dX10_luck_28 : decode bX10_luck 28 = .ok (.iload_n 2, 1) := by decide +kernel
theorem dX10_luck_29 : decode bX10_luck 29 = .ok (.iconst 1, 1) := by decide +kernel
theorem dX10_luck_30 : decode bX10_luck 30 = .ok (.if_icmp .lt 9, 3) := by decide +kernel
theorem dX10_luck_33 : decode bX10_luck 33 = .ok (.iload_n 2, 1) := by decide +kernel
theorem dX10_luck_34 : decode bX10_luck 34 = .ok (.bipush 20, 2) := by decide +kernel
theorem dX10_luck_36 : decode bX10_luck 36 = .ok (.if_icmp .le 8, 3) := by decide +kernel
theorem dX10_luck_39 : decode bX10_luck 39 = .ok (.bipush (-2), 2) := by decide +kernel
theorem dX10_luck_41 : decode bX10_luck 41 = .ok (.goto 13, 3) := by decide +kernel
theorem dX10_luck_44 : decode bX10_luck 44 = .ok (.aload_n 0, 1) := by decide +kernel
theorem dX10_luck_45 : decode bX10_luck 45 = .ok (.getfield 72, 3) := by decide +kernel
theorem dX10_luck_48 : decode bX10_luck 48 = .ok (.iload_n 1, 1) := by decide +kernel
theorem dX10_luck_49 : decode bX10_luck 49 = .ok (.iload_n 2, 1) := by decide +kernel
theorem dX10_luck_50 : decode bX10_luck 50 = .ok (.iload_n 3, 1) := by decide +kernel
theorem dX10_luck_51 : decode bX10_luck 51 = .ok (.invokevirtual 413, 3) := by decide +kernel
theorem dX10_luck_54 : decode bX10_luck 54 = .ok (.ireturn, 1) := by decide +kernel
theorem dX10_rate_0 : decode bX10_rate 0 = .ok (.aload_n 0, 1) := by decide +kernel
theorem dX10_rate_1 : decode bX10_rate 1 = .ok (.getfield 49, 3) := by decide +kernel
theorem dX10_rate_4 : decode bX10_rate 4 = .ok (.getfield 106, 3) := by decide +kernel
theorem dX10_rate_7 : decode bX10_rate 7 = .ok (.iload_n 1, 1) := by decide +kernel
theorem dX10_rate_8 : decode bX10_rate 8 = .ok (.invokevirtual 132, 3) := by decide +kernel
theorem dX10_rate_11 : decode bX10_rate 11 = .ok (.ifCond .eq 14, 3) := by decide +kernel
theorem dX10_rate_14 : decode bX10_rate 14 = .ok (.iload_n 2, 1) := by decide +kernel
theorem dX10_rate_15 : decode bX10_rate 15 = .ok (.ifCond .lt 10, 3) := by decide +kernel
theorem dX10_rate_18 : decode bX10_rate 18 = .ok (.iload_n 2, 1) := by decide +kernel
theorem dX10_rate_19 : decode bX10_rate 19 = .ok (.sipush 300, 3) := by decide +kernel
theorem dX10_rate_22 : decode bX10_rate 22 = .ok (.if_icmp .le 6, 3) := by decide +kernel
theorem dX10_rate_25 : decode bX10_rate 25 = .ok (.bipush (-2), 2) := by decide +kernel
theorem dX10_rate_27 : decode bX10_rate 27 = .ok (.ireturn, 1) := by decide +kernel
theorem dX10_rate_28 : decode bX10_rate 28 = .ok (.aload_n 0, 1) := by decide +kernel
theorem dX10_rate_29 : decode bX10_rate 29 = .ok (.getfield 49, 3) := by decide +kernel
theorem dX10_rate_32 : decode bX10_rate 32 = .ok (.getfield 112, 3) := by decide +kernel
theorem dX10_rate_35 : decode bX10_rate 35 = .ok (.getfield 402, 3) := by decide +kernel
theorem dX10_rate_38 : decode bX10_rate 38 = .ok (.ifCond .le 6, 3) := by decide +kernel
theorem dX10_rate_41 : decode bX10_rate 41 = .ok (.bipush (-5), 2) := by decide +kernel
theorem dX10_rate_43 : decode bX10_rate 43 = .ok (.ireturn, 1) := by decide +kernel
theorem dX10_rate_44 : decode bX10_rate 44 = .ok (.aload_n 0, 1) := by decide +kernel
theorem dX10_rate_45 : decode bX10_rate 45 = .ok (.getfield 49, 3) := by decide +kernel
theorem dX10_rate_48 : decode bX10_rate 48 = .ok (.getfield 106, 3) := by decide +kernel
theorem dX10_rate_51 : decode bX10_rate 51 = .ok (.getfield 141, 3) := by decide +kernel
theorem dX10_rate_54 : decode bX10_rate 54 = .ok (.iload_n 1, 1) := by decide +kernel
theorem dX10_rate_55 : decode bX10_rate 55 = .ok (.iaload, 1) := by decide +kernel
theorem dX10_rate_56 : decode bX10_rate 56 = .ok (.istore_n 3, 1) := by decide +kernel
theorem dX10_rate_57 : decode bX10_rate 57 = .ok (.aload_n 0, 1) := by decide +kernel
theorem dX10_rate_58 : decode bX10_rate 58 = .ok (.getfield 49, 3) := by decide +kernel
theorem dX10_rate_61 : decode bX10_rate 61 = .ok (.getfield 106, 3) := by decide +kernel
theorem dX10_rate_64 : decode bX10_rate 64 = .ok (.getfield 141, 3) := by decide +kernel
theorem dX10_rate_67 : decode bX10_rate 67 = .ok (.iload_n 1, 1) := by decide +kernel
theorem dX10_rate_68 : decode bX10_rate 68 = .ok (.iload_n 2, 1) := by decide +kernel
theorem dX10_rate_69 : decode bX10_rate 69 = .ok (.iastore, 1) := by decide +kernel
theorem dX10_rate_70 : decode bX10_rate 70 = .ok (.aload_n 0, 1) := by decide +kernel
theorem dX10_rate_71 : decode bX10_rate 71 = .ok (.iconst 0, 1) := by decide +kernel
theorem dX10_rate_72 : decode bX10_rate 72 = .ok (.putfield 77, 3) := by decide +kernel
theorem dX10_rate_75 : decode bX10_rate 75 = .ok (.iload_n 3, 1) := by decide +kernel
theorem dX10_rate_76 : decode bX10_rate 76 = .ok (.ireturn, 1) := by decide +kernel
theorem dX10_count_0 : decode bX10_count 0 = .ok (.iload_n 1, 1) := by decide +kernel
theorem dX10_count_1 : decode bX10_count 1 = .ok (.tableswitch 171 0 10 #[59, 70, 81, 92, 103, 114, 125, 136, 147, 158, 166], 59) := by decide +kernel
theorem dX10_count_60 : decode bX10_count 60 = .ok (.aload_n 0, 1) := by decide +kernel
theorem dX10_count_61 : decode bX10_count 61 = .ok (.getfield 49, 3) := by decide +kernel
theorem dX10_count_64 : decode bX10_count 64 = .ok (.getfield 106, 3) := by decide +kernel
theorem dX10_count_67 : decode bX10_count 67 = .ok (.getfield 210, 3) := by decide +kernel
theorem dX10_count_70 : decode bX10_count 70 = .ok (.ireturn, 1) := by decide +kernel
theorem dX10_count_71 : decode bX10_count 71 = .ok (.aload_n 0, 1) := by decide +kernel
theorem dX10_count_72 : decode bX10_count 72 = .ok (.getfield 49, 3) := by decide +kernel
theorem dX10_count_75 : decode bX10_count 75 = .ok (.getfield 106, 3) := by decide +kernel
theorem dX10_count_78 : decode bX10_count 78 = .ok (.getfield 416, 3) := by decide +kernel
theorem dX10_count_81 : decode bX10_count 81 = .ok (.ireturn, 1) := by decide +kernel
theorem dX10_count_82 : decode bX10_count 82 = .ok (.aload_n 0, 1) := by decide +kernel
theorem dX10_count_83 : decode bX10_count 83 = .ok (.getfield 49, 3) := by decide +kernel
theorem dX10_count_86 : decode bX10_count 86 = .ok (.getfield 106, 3) := by decide +kernel
theorem dX10_count_89 : decode bX10_count 89 = .ok (.getfield 419, 3) := by decide +kernel
theorem dX10_count_92 : decode bX10_count 92 = .ok (.ireturn, 1) := by decide +kernel
theorem dX10_count_93 : decode bX10_count 93 = .ok (.aload_n 0, 1) := by decide +kernel
theorem dX10_count_94 : decode bX10_count 94 = .ok (.getfield 49, 3) := by decide +kernel
theorem dX10_count_97 : decode bX10_count 97 = .ok (.getfield 106, 3) := by decide +kernel
theorem dX10_count_100 : decode bX10_count 100 = .ok (.getfield 421, 3) := by decide +kernel
theorem dX10_count_103 : decode bX10_count 103 = .ok (.ireturn, 1) := by decide +kernel
theorem dX10_count_104 : decode bX10_count 104 = .ok (.aload_n 0, 1) := by decide +kernel
theorem dX10_count_105 : decode bX10_count 105 = .ok (.getfield 49, 3) := by decide +kernel
theorem dX10_count_108 : decode bX10_count 108 = .ok (.getfield 106, 3) := by decide +kernel
theorem dX10_count_111 : decode bX10_count 111 = .ok (.getfield 424, 3) := by decide +kernel
theorem dX10_count_114 : decode bX10_count 114 = .ok (.ireturn, 1) := by decide +kernel
theorem dX10_count_115 : decode bX10_count 115 = .ok (.aload_n 0, 1) := by decide +kernel
theorem dX10_count_116 : decode bX10_count 116 = .ok (.getfield 49, 3) := by decide +kernel
theorem dX10_count_119 : decode bX10_count 119 = .ok (.getfield 106, 3) := by decide +kernel
theorem dX10_count_122 : decode bX10_count 122 = .ok (.getfield 237, 3) := by decide +kernel
theorem dX10_count_125 : decode bX10_count 125 = .ok (.ireturn, 1) := by decide +kernel
theorem dX10_count_126 : decode bX10_count 126 = .ok (.aload_n 0, 1) := by decide +kernel
theorem dX10_count_127 : decode bX10_count 127 = .ok (.getfield 49, 3) := by decide +kernel
theorem dX10_count_130 : decode bX10_count 130 = .ok (.getfield 106, 3) := by decide +kernel
theorem dX10_count_133 : decode bX10_count 133 = .ok (.getfield 427, 3) := by decide +kernel
theorem dX10_count_136 : decode bX10_count 136 = .ok (.ireturn, 1) := by decide +kernel
theorem dX10_count_137 : decode bX10_count 137 = .ok (.aload_n 0, 1) := by decide +kernel
theorem dX10_count_138 : decode bX10_count 138 = .ok (.getfield 49, 3) := by decide +kernel
theorem dX10_count_141 : decode bX10_count 141 = .ok (.getfield 112, 3) := by decide +kernel
theorem dX10_count_144 : decode bX10_count 144 = .ok (.getfield 402, 3) := by decide +kernel
theorem dX10_count_147 : decode bX10_count 147 = .ok (.ireturn, 1) := by decide +kernel
theorem dX10_count_148 : decode bX10_count 148 = .ok (.aload_n 0, 1) := by decide +kernel
theorem dX10_count_149 : decode bX10_count 149 = .ok (.getfield 49, 3) := by decide +kernel
theorem dX10_count_152 : decode bX10_count 152 = .ok (.getfield 106, 3) := by decide +kernel
theorem dX10_count_155 : decode bX10_count 155 = .ok (.getfield 119, 3) := by decide +kernel
theorem dX10_count_158 : decode bX10_count 158 = .ok (.ireturn, 1) := by decide +kernel
theorem dX10_count_159 : decode bX10_count 159 = .ok (.aload_n 0, 1) := by decide +kernel
theorem dX10_count_160 : decode bX10_count 160 = .ok (.getfield 28, 3) := by decide +kernel
theorem dX10_count_163 : decode bX10_count 163 = .ok (.getfield 89, 3) := by decide +kernel
theorem dX10_count_166 : decode bX10_count 166 = .ok (.ireturn, 1) := by decide +kernel
theorem dX10_count_167 : decode bX10_count 167 = .ok (.aload_n 0, 1) := by decide +kernel
theorem dX10_count_168 : decode bX10_count 168 = .ok (.invokevirtual 430, 3) := by decide +kernel
theorem dX10_count_171 : decode bX10_count 171 = .ok (.ireturn, 1) := by decide +kernel
theorem dX10_count_172 : decode bX10_count 172 = .ok (.iconst (-1), 1) := by decide +kernel
theorem dX10_count_173 : decode bX10_count 173 = .ok (.ireturn, 1) := by decide +kernel
theorem dX10_image_0 : decode bX10_image 0 = .ok (.iload_n 1, 1) := by decide +kernel
theorem dX10_image_1 : decode bX10_image 1 = .ok (.invokestatic 433, 3) := by decide +kernel
theorem dX10_image_4 : decode bX10_image 4 = .ok (.ifCond .ne 6, 3) := by decide +kernel
theorem dX10_image_7 : decode bX10_image 7 = .ok (.bipush (-2), 2) := by decide +kernel
theorem dX10_image_9 : decode bX10_image 9 = .ok (.ireturn, 1) := by decide +kernel
theorem dX10_image_10 : decode bX10_image 10 = .ok (.aload_n 0, 1) := by decide +kernel
theorem dX10_image_11 : decode bX10_image 11 = .ok (.getfield 11, 3) := by decide +kernel
theorem dX10_image_14 : decode bX10_image 14 = .ok (.iload_n 1, 1) := by decide +kernel
theorem dX10_image_15 : decode bX10_image 15 = .ok (.aaload, 1) := by decide +kernel
theorem dX10_image_16 : decode bX10_image 16 = .ok (.aload_n 0, 1) := by decide +kernel
theorem dX10_image_17 : decode bX10_image 17 = .ok (.getfield 49, 3) := by decide +kernel
theorem dX10_image_20 : decode bX10_image 20 = .ok (.invokevirtual 436, 3) := by decide +kernel
theorem dX10_image_23 : decode bX10_image 23 = .ok (.aload_n 0, 1) := by decide +kernel
theorem dX10_image_24 : decode bX10_image 24 = .ok (.getfield 15, 3) := by decide +kernel
theorem dX10_image_27 : decode bX10_image 27 = .ok (.iload_n 1, 1) := by decide +kernel
theorem dX10_image_28 : decode bX10_image 28 = .ok (.iconst 1, 1) := by decide +kernel
theorem dX10_image_29 : decode bX10_image 29 = .ok (.bastore, 1) := by decide +kernel
theorem dX10_image_30 : decode bX10_image 30 = .ok (.iconst 0, 1) := by decide +kernel
theorem dX10_image_31 : decode bX10_image 31 = .ok (.ireturn, 1) := by decide +kernel
theorem dX10_back_0 : decode bX10_back 0 = .ok (.iload_n 1, 1) := by decide +kernel
theorem dX10_back_1 : decode bX10_back 1 = .ok (.invokestatic 433, 3) := by decide +kernel
theorem dX10_back_4 : decode bX10_back 4 = .ok (.ifCond .ne 6, 3) := by decide +kernel
theorem dX10_back_7 : decode bX10_back 7 = .ok (.bipush (-2), 2) := by decide +kernel
theorem dX10_back_9 : decode bX10_back 9 = .ok (.ireturn, 1) := by decide +kernel
theorem dX10_back_10 : decode bX10_back 10 = .ok (.aload_n 0, 1) := by decide +kernel
theorem dX10_back_11 : decode bX10_back 11 = .ok (.getfield 15, 3) := by decide +kernel
theorem dX10_back_14 : decode bX10_back 14 = .ok (.iload_n 1, 1) := by decide +kernel
theorem dX10_back_15 : decode bX10_back 15 = .ok (.baload, 1) := by decide +kernel
theorem dX10_back_16 : decode bX10_back 16 = .ok (.ifCond .ne 6, 3) := by decide +kernel
theorem dX10_back_19 : decode bX10_back 19 = .ok (.bipush (-6), 2) := by decide +kernel
theorem dX10_back_21 : decode bX10_back 21 = .ok (.ireturn, 1) := by decide +kernel
theorem dX10_back_22 : decode bX10_back 22 = .ok (.aload_n 0, 1) := by decide +kernel
theorem dX10_back_23 : decode bX10_back 23 = .ok (.getfield 49, 3) := by decide +kernel
theorem dX10_back_26 : decode bX10_back 26 = .ok (.aload_n 0, 1) := by decide +kernel
theorem dX10_back_27 : decode bX10_back 27 = .ok (.getfield 11, 3) := by decide +kernel
theorem dX10_back_30 : decode bX10_back 30 = .ok (.iload_n 1, 1) := by decide +kernel
theorem dX10_back_31 : decode bX10_back 31 = .ok (.aaload, 1) := by decide +kernel
theorem dX10_back_32 : decode bX10_back 32 = .ok (.invokevirtual 436, 3) := by decide +kernel
theorem dX10_back_35 : decode bX10_back 35 = .ok (.aload_n 0, 1) := by decide +kernel
theorem dX10_back_36 : decode bX10_back 36 = .ok (.iconst 0, 1) := by decide +kernel
theorem dX10_back_37 : decode bX10_back 37 = .ok (.putfield 77, 3) := by decide +kernel
theorem dX10_back_40 : decode bX10_back 40 = .ok (.iconst 0, 1) := by decide +kernel
theorem dX10_back_41 : decode bX10_back 41 = .ok (.ireturn, 1) := by decide +kernel
theorem dX10_row_0 : decode bX10_row 0 = .ok (.aload_n 0, 1) := by decide +kernel
theorem dX10_row_1 : decode bX10_row 1 = .ok (.iload_n 1, 1) := by decide +kernel
theorem dX10_row_2 : decode bX10_row 2 = .ok (.invokevirtual 318, 3) := by decide +kernel
theorem dX10_row_5 : decode bX10_row 5 = .ok (.astore 4, 2) := by decide +kernel
theorem dX10_row_7 : decode bX10_row 7 = .ok (.aload 4, 2) := by decide +kernel
theorem dX10_row_9 : decode bX10_row 9 = .ok (.ifnull 18, 3) := by decide +kernel
theorem dX10_row_12 : decode bX10_row 12 = .ok (.iload_n 2, 1) := by decide +kernel
theorem dX10_row_13 : decode bX10_row 13 = .ok (.ifCond .lt 14, 3) := by decide +kernel
theorem dX10_row_16 : decode bX10_row 16 = .ok (.iload_n 2, 1) := by decide +kernel
theorem dX10_row_17 : decode bX10_row 17 = .ok (.iconst 4, 1) := by decide +kernel
theorem dX10_row_18 : decode bX10_row 18 = .ok (.if_icmp .ge 9, 3) := by decide +kernel
theorem dX10_row_21 : decode bX10_row 21 = .ok (.iload_n 3, 1) := by decide +kernel
theorem dX10_row_22 : decode bX10_row 22 = .ok (.bipush 60, 2) := by decide +kernel
theorem dX10_row_24 : decode bX10_row 24 = .ok (.if_icmp .le 6, 3) := by decide +kernel
theorem dX10_row_27 : decode bX10_row 27 = .ok (.bipush (-2), 2) := by decide +kernel
theorem dX10_row_29 : decode bX10_row 29 = .ok (.ireturn, 1) := by decide +kernel
theorem dX10_row_30 : decode bX10_row 30 = .ok (.iload_n 3, 1) := by decide +kernel
theorem dX10_row_31 : decode bX10_row 31 = .ok (.ifCond .ge 6, 3) := by decide +kernel
theorem dX10_row_34 : decode bX10_row 34 = .ok (.bipush (-3), 2) := by decide +kernel
theorem dX10_row_36 : decode bX10_row 36 = .ok (.ireturn, 1) := by decide +kernel
theorem dX10_row_37 : decode bX10_row 37 = .ok (.aload 4, 2) := by decide +kernel
theorem dX10_row_39 : decode bX10_row 39 = .ok (.iload_n 2, 1) := by decide +kernel
theorem dX10_row_40 : decode bX10_row 40 = .ok (.iload_n 3, 1) := by decide +kernel
theorem dX10_row_41 : decode bX10_row 41 = .ok (.invokevirtual 438, 3) := by decide +kernel
theorem dX10_row_44 : decode bX10_row 44 = .ok (.iconst 0, 1) := by decide +kernel
theorem dX10_row_45 : decode bX10_row 45 = .ok (.ireturn, 1) := by decide +kernel
theorem dX10_write_0 : decode bX10_write 0 = .ok (.aload_n 0, 1) := by decide +kernel
theorem dX10_write_1 : decode bX10_write 1 = .ok (.iload_n 1, 1) := by decide +kernel
theorem dX10_write_2 : decode bX10_write 2 = .ok (.invokevirtual 318, 3) := by decide +kernel
theorem dX10_write_5 : decode bX10_write 5 = .ok (.astore 5, 2) := by decide +kernel
theorem dX10_write_7 : decode bX10_write 7 = .ok (.aload 5, 2) := by decide +kernel
theorem dX10_write_9 : decode bX10_write 9 = .ok (.ifnonnull 6, 3) := by decide +kernel
theorem dX10_write_12 : decode bX10_write 12 = .ok (.bipush (-2), 2) := by decide +kernel
theorem dX10_write_14 : decode bX10_write 14 = .ok (.ireturn, 1) := by decide +kernel
theorem dX10_write_15 : decode bX10_write 15 = .ok (.aload 5, 2) := by decide +kernel
theorem dX10_write_17 : decode bX10_write 17 = .ok (.getfield 339, 3) := by decide +kernel
theorem dX10_write_20 : decode bX10_write 20 = .ok (.ifCond .ne 6, 3) := by decide +kernel
theorem dX10_write_23 : decode bX10_write 23 = .ok (.bipush (-6), 2) := by decide +kernel
theorem dX10_write_25 : decode bX10_write 25 = .ok (.ireturn, 1) := by decide +kernel
theorem dX10_write_26 : decode bX10_write 26 = .ok (.aload 5, 2) := by decide +kernel
theorem dX10_write_28 : decode bX10_write 28 = .ok (.iload_n 2, 1) := by decide +kernel
theorem dX10_write_29 : decode bX10_write 29 = .ok (.lload_n 3, 1) := by decide +kernel
theorem dX10_write_30 : decode bX10_write 30 = .ok (.invokevirtual 442, 3) := by decide +kernel
theorem dX10_write_33 : decode bX10_write 33 = .ok (.ifCond .eq 7, 3) := by decide +kernel
theorem dX10_write_36 : decode bX10_write 36 = .ok (.iconst 0, 1) := by decide +kernel
theorem dX10_write_37 : decode bX10_write 37 = .ok (.goto 5, 3) := by decide +kernel
theorem dX10_write_40 : decode bX10_write 40 = .ok (.bipush (-7), 2) := by decide +kernel
theorem dX10_write_42 : decode bX10_write 42 = .ok (.ireturn, 1) := by decide +kernel
theorem dX10_paste_0 : decode bX10_paste 0 = .ok (.aload_n 0, 1) := by decide +kernel
theorem dX10_paste_1 : decode bX10_paste 1 = .ok (.iload_n 1, 1) := by decide +kernel
theorem dX10_paste_2 : decode bX10_paste 2 = .ok (.invokevirtual 318, 3) := by decide +kernel
theorem dX10_paste_5 : decode bX10_paste 5 = .ok (.astore 6, 2) := by decide +kernel
theorem dX10_paste_7 : decode bX10_paste 7 = .ok (.aload_n 0, 1) := by decide +kernel
theorem dX10_paste_8 : decode bX10_paste 8 = .ok (.iload_n 3, 1) := by decide +kernel
theorem dX10_paste_9 : decode bX10_paste 9 = .ok (.invokevirtual 318, 3) := by decide +kernel
theorem dX10_paste_12 : decode bX10_paste 12 = .ok (.astore 7, 2) := by decide +kernel
theorem dX10_paste_14 : decode bX10_paste 14 = .ok (.aload 6, 2) := by decide +kernel
theorem dX10_paste_16 : decode bX10_paste 16 = .ok (.ifnull 8, 3) := by decide +kernel
theorem dX10_paste_19 : decode bX10_paste 19 = .ok (.aload 7, 2) := by decide +kernel
theorem dX10_paste_21 : decode bX10_paste 21 = .ok (.ifnonnull 6, 3) := by decide +kernel
theorem dX10_paste_24 : decode bX10_paste 24 = .ok (.bipush (-2), 2) := by decide +kernel
theorem dX10_paste_26 : decode bX10_paste 26 = .ok (.ireturn, 1) := by decide +kernel
theorem dX10_paste_27 : decode bX10_paste 27 = .ok (.aload 6, 2) := by decide +kernel
theorem dX10_paste_29 : decode bX10_paste 29 = .ok (.getfield 339, 3) := by decide +kernel
theorem dX10_paste_32 : decode bX10_paste 32 = .ok (.ifCond .eq 11, 3) := by decide +kernel
theorem dX10_paste_35 : decode bX10_paste 35 = .ok (.aload 7, 2) := by decide +kernel
theorem dX10_paste_37 : decode bX10_paste 37 = .ok (.getfield 339, 3) := by decide +kernel
theorem dX10_paste_40 : decode bX10_paste 40 = .ok (.ifCond .ne 6, 3) := by decide +kernel
theorem dX10_paste_43 : decode bX10_paste 43 = .ok (.bipush (-6), 2) := by decide +kernel
theorem dX10_paste_45 : decode bX10_paste 45 = .ok (.ireturn, 1) := by decide +kernel
theorem dX10_paste_46 : decode bX10_paste 46 = .ok (.aload 6, 2) := by decide +kernel
theorem dX10_paste_48 : decode bX10_paste 48 = .ok (.getfield 446, 3) := by decide +kernel
theorem dX10_paste_51 : decode bX10_paste 51 = .ok (.aload 7, 2) := by decide +kernel
theorem dX10_paste_53 : decode bX10_paste 53 = .ok (.getfield 446, 3) := by decide +kernel
theorem dX10_paste_56 : decode bX10_paste 56 = .ok (.if_icmp .eq 6, 3) := by decide +kernel
theorem dX10_paste_59 : decode bX10_paste 59 = .ok (.bipush (-8), 2) := by decide +kernel
theorem dX10_paste_61 : decode bX10_paste 61 = .ok (.ireturn, 1) := by decide +kernel
theorem dX10_paste_62 : decode bX10_paste 62 = .ok (.aload 6, 2) := by decide +kernel
theorem dX10_paste_64 : decode bX10_paste 64 = .ok (.iload_n 2, 1) := by decide +kernel
theorem dX10_paste_65 : decode bX10_paste 65 = .ok (.iload 5, 2) := by decide +kernel
theorem dX10_paste_67 : decode bX10_paste 67 = .ok (.invokevirtual 449, 3) := by decide +kernel
theorem dX10_paste_70 : decode bX10_paste 70 = .ok (.ifCond .eq 15, 3) := by decide +kernel
theorem dX10_paste_73 : decode bX10_paste 73 = .ok (.aload 7, 2) := by decide +kernel
theorem dX10_paste_75 : decode bX10_paste 75 = .ok (.iload 4, 2) := by decide +kernel
theorem dX10_paste_77 : decode bX10_paste 77 = .ok (.iload 5, 2) := by decide +kernel
theorem dX10_paste_79 : decode bX10_paste 79 = .ok (.invokevirtual 449, 3) := by decide +kernel
theorem dX10_paste_82 : decode bX10_paste 82 = .ok (.ifCond .ne 6, 3) := by decide +kernel
theorem dX10_paste_85 : decode bX10_paste 85 = .ok (.bipush (-7), 2) := by decide +kernel
theorem dX10_paste_87 : decode bX10_paste 87 = .ok (.ireturn, 1) := by decide +kernel
theorem dX10_paste_88 : decode bX10_paste 88 = .ok (.aload 6, 2) := by decide +kernel
theorem dX10_paste_90 : decode bX10_paste 90 = .ok (.getfield 452, 3) := by decide +kernel
theorem dX10_paste_93 : decode bX10_paste 93 = .ok (.iload_n 2, 1) := by decide +kernel
theorem dX10_paste_94 : decode bX10_paste 94 = .ok (.aload 7, 2) := by decide +kernel
theorem dX10_paste_96 : decode bX10_paste 96 = .ok (.getfield 452, 3) := by decide +kernel
theorem dX10_paste_99 : decode bX10_paste 99 = .ok (.iload 4, 2) := by decide +kernel
theorem dX10_paste_101 : decode bX10_paste 101 = .ok (.iload 5, 2) := by decide +kernel
theorem dX10_paste_103 : decode bX10_paste 103 = .ok (.invokestatic 456, 3) := by decide +kernel
theorem dX10_paste_106 : decode bX10_paste 106 = .ok (.iconst 0, 1) := by decide +kernel
theorem dX10_paste_107 : decode bX10_paste 107 = .ok (.ireturn, 1) := by decide +kernel
theorem dX10_hasImage_0 : decode bX10_hasImage 0 = .ok (.iload_n 0, 1) := by decide +kernel
theorem dX10_hasImage_1 : decode bX10_hasImage 1 = .ok (.ifCond .lt 12, 3) := by decide +kernel
theorem dX10_hasImage_4 : decode bX10_hasImage 4 = .ok (.iload_n 0, 1) := by decide +kernel
theorem dX10_hasImage_5 : decode bX10_hasImage 5 = .ok (.iconst 3, 1) := by decide +kernel
theorem dX10_hasImage_6 : decode bX10_hasImage 6 = .ok (.if_icmp .ge 7, 3) := by decide +kernel
theorem dX10_hasImage_9 : decode bX10_hasImage 9 = .ok (.iconst 1, 1) := by decide +kernel
theorem dX10_hasImage_10 : decode bX10_hasImage 10 = .ok (.goto 4, 3) := by decide +kernel
theorem dX10_hasImage_13 : decode bX10_hasImage 13 = .ok (.iconst 0, 1) := by decide +kernel
theorem dX10_hasImage_14 : decode bX10_hasImage 14 = .ok (.ireturn, 1) := by decide +kernel
theorem dX10_rowOf_0 : decode bX10_rowOf 0 = .ok (.iload_n 1, 1) := by decide +kernel
theorem dX10_rowOf_1 : decode bX10_rowOf 1 = .ok (.ifCond .lt 17, 3) := by decide +kernel
theorem dX10_rowOf_4 : decode bX10_rowOf 4 = .ok (.iload_n 1, 1) := by decide +kernel
theorem dX10_rowOf_5 : decode bX10_rowOf 5 = .ok (.iconst 4, 1) := by decide +kernel
theorem dX10_rowOf_6 : decode bX10_rowOf 6 = .ok (.if_icmp .ge 12, 3) := by decide +kernel
theorem dX10_rowOf_9 : decode bX10_rowOf 9 = .ok (.aload_n 0, 1) := by decide +kernel
theorem dX10_rowOf_10 : decode bX10_rowOf 10 = .ok (.getfield 21, 3) := by decide +kernel
theorem dX10_rowOf_13 : decode bX10_rowOf 13 = .ok (.iload_n 1, 1) := by decide +kernel
theorem dX10_rowOf_14 : decode bX10_rowOf 14 = .ok (.aaload, 1) := by decide +kernel
theorem dX10_rowOf_15 : decode bX10_rowOf 15 = .ok (.goto 4, 3) := by decide +kernel
theorem dX10_rowOf_18 : decode bX10_rowOf 18 = .ok (.aconst_null, 1) := by decide +kernel
theorem dX10_rowOf_19 : decode bX10_rowOf 19 = .ok (.areturn, 1) := by decide +kernel
theorem dX10_slotsWithRows_0 : decode bX10_slotsWithRows 0 = .ok (.iconst 0, 1) := by decide +kernel
theorem dX10_slotsWithRows_1 : decode bX10_slotsWithRows 1 = .ok (.istore_n 1, 1) := by decide +kernel
theorem dX10_slotsWithRows_2 : decode bX10_slotsWithRows 2 = .ok (.iconst 0, 1) := by decide +kernel
theorem dX10_slotsWithRows_3 : decode bX10_slotsWithRows 3 = .ok (.istore_n 2, 1) := by decide +kernel
theorem dX10_slotsWithRows_4 : decode bX10_slotsWithRows 4 = .ok (.iload_n 2, 1) := by decide +kernel
theorem dX10_slotsWithRows_5 : decode bX10_slotsWithRows 5 = .ok (.iconst 4, 1) := by decide +kernel
theorem dX10_slotsWithRows_6 : decode bX10_slotsWithRows 6 = .ok (.if_icmp .ge 24, 3) := by decide +kernel
theorem dX10_slotsWithRows_9 : decode bX10_slotsWithRows 9 = .ok (.aload_n 0, 1) := by decide +kernel
theorem dX10_slotsWithRows_10 : decode bX10_slotsWithRows 10 = .ok (.getfield 21, 3) := by decide +kernel
theorem dX10_slotsWithRows_13 : decode bX10_slotsWithRows 13 = .ok (.iload_n 2, 1) := by decide +kernel
theorem dX10_slotsWithRows_14 : decode bX10_slotsWithRows 14 = .ok (.aaload, 1) := by decide +kernel
theorem dX10_slotsWithRows_15 : decode bX10_slotsWithRows 15 = .ok (.getfield 339, 3) := by decide +kernel
theorem dX10_slotsWithRows_18 : decode bX10_slotsWithRows 18 = .ok (.ifCond .eq 6, 3) := by decide +kernel
theorem dX10_slotsWithRows_21 : decode bX10_slotsWithRows 21 = .ok (.iinc 1 1, 3) := by decide +kernel
theorem dX10_slotsWithRows_24 : decode bX10_slotsWithRows 24 = .ok (.iinc 2 1, 3) := by decide +kernel
theorem dX10_slotsWithRows_27 : decode bX10_slotsWithRows 27 = .ok (.goto (-23), 3) := by decide +kernel
theorem dX10_slotsWithRows_30 : decode bX10_slotsWithRows 30 = .ok (.iload_n 1, 1) := by decide +kernel
theorem dX10_slotsWithRows_31 : decode bX10_slotsWithRows 31 = .ok (.ireturn, 1) := by decide +kernel
theorem dX10_followedCourse_0 : decode bX10_followedCourse 0 = .ok (.aload_n 0, 1) := by decide +kernel
theorem dX10_followedCourse_1 : decode bX10_followedCourse 1 = .ok (.getfield 77, 3) := by decide +kernel
theorem dX10_followedCourse_4 : decode bX10_followedCourse 4 = .ok (.ifCond .ne 28, 3) := by decide +kernel
theorem dX10_followedCourse_7 : decode bX10_followedCourse 7 = .ok (.aload_n 0, 1) := by decide +kernel
theorem dX10_followedCourse_8 : decode bX10_followedCourse 8 = .ok (.getfield 58, 3) := by decide +kernel
theorem dX10_followedCourse_11 : decode bX10_followedCourse 11 = .ok (.iconst 0, 1) := by decide +kernel
theorem dX10_followedCourse_12 : decode bX10_followedCourse 12 = .ok (.aload_n 0, 1) := by decide +kernel
theorem dX10_followedCourse_13 : decode bX10_followedCourse 13 = .ok (.getfield 49, 3) := by decide +kernel
theorem dX10_followedCourse_16 : decode bX10_followedCourse 16 = .ok (.getfield 106, 3) := by decide +kernel
theorem dX10_followedCourse_19 : decode bX10_followedCourse 19 = .ok (.getfield 210, 3) := by decide +kernel
theorem dX10_followedCourse_22 : decode bX10_followedCourse 22 = .ok (.bipush 63, 2) := by decide +kernel
theorem dX10_followedCourse_24 : decode bX10_followedCourse 24 = .ok (.invokevirtual 462, 3) := by decide +kernel
theorem dX10_followedCourse_27 : decode bX10_followedCourse 27 = .ok (.aload_n 0, 1) := by decide +kernel
theorem dX10_followedCourse_28 : decode bX10_followedCourse 28 = .ok (.iconst 1, 1) := by decide +kernel
theorem dX10_followedCourse_29 : decode bX10_followedCourse 29 = .ok (.putfield 77, 3) := by decide +kernel
theorem dX10_followedCourse_32 : decode bX10_followedCourse 32 = .ok (.aload_n 0, 1) := by decide +kernel
theorem dX10_followedCourse_33 : decode bX10_followedCourse 33 = .ok (.getfield 58, 3) := by decide +kernel
theorem dX10_followedCourse_36 : decode bX10_followedCourse 36 = .ok (.areturn, 1) := by decide +kernel
