theorem dX2_init_0 : decode bX2_init 0 = .ok (.aload_n 0, 1) := by decide +kernel
theorem dX2_init_1 : decode bX2_init 1 = .ok (.invokespecial 3, 3) := by decide +kernel
theorem dX2_init_4 : decode bX2_init 4 = .ok (.aload_n 0, 1) := by decide +kernel
theorem dX2_init_5 : decode bX2_init 5 = .ok (.bipush 90, 2) := by decide +kernel
theorem dX2_init_7 : decode bX2_init 7 = .ok (.newarray .int, 2) := by decide +kernel
theorem dX2_init_9 : decode bX2_init 9 = .ok (.putfield 9, 3) := by decide +kernel
theorem dX2_init_12 : decode bX2_init 12 = .ok (.aload_n 0, 1) := by decide +kernel
theorem dX2_init_13 : decode bX2_init 13 = .ok (.bipush 90, 2) := by decide +kernel
theorem dX2_init_15 : decode bX2_init 15 = .ok (.newarray .int, 2) := by decide +kernel
theorem dX2_init_17 : decode bX2_init 17 = .ok (.putfield 15, 3) := by decide +kernel
theorem dX2_init_20 : decode bX2_init 20 = .ok (.aload_n 0, 1) := by decide +kernel
theorem dX2_init_21 : decode bX2_init 21 = .ok (.bipush 90, 2) := by decide +kernel
theorem dX2_init_23 : decode bX2_init 23 = .ok (.newarray .int, 2) := by decide +kernel
theorem dX2_init_25 : decode bX2_init 25 = .ok (.putfield 18, 3) := by decide +kernel
theorem dX2_init_28 : decode bX2_init 28 = .ok (.aload_n 0, 1) := by decide +kernel
theorem dX2_init_29 : decode bX2_init 29 = .ok (.bipush 6, 2) := by decide +kernel
theorem dX2_init_31 : decode bX2_init 31 = .ok (.newarray .int, 2) := by decide +kernel
theorem dX2_init_33 : decode bX2_init 33 = .ok (.putfield 21, 3) := by decide +kernel
theorem dX2_init_36 : decode bX2_init 36 = .ok (.aload_n 0, 1) := by decide +kernel
theorem dX2_init_37 : decode bX2_init 37 = .ok (.bipush 6, 2) := by decide +kernel
theorem dX2_init_39 : decode bX2_init 39 = .ok (.newarray .int, 2) := by decide +kernel
theorem dX2_init_41 : decode bX2_init 41 = .ok (.putfield 24, 3) := by decide +kernel
theorem dX2_init_44 : decode bX2_init 44 = .ok (.aload_n 0, 1) := by decide +kernel
theorem dX2_init_45 : decode bX2_init 45 = .ok (.bipush 6, 2) := by decide +kernel
theorem dX2_init_47 : decode bX2_init 47 = .ok (.newarray .int, 2) := by decide +kernel
theorem dX2_init_49 : decode bX2_init 49 = .ok (.putfield 27, 3) := by decide +kernel
theorem dX2_init_52 : decode bX2_init 52 = .ok (.aload_n 0, 1) := by decide +kernel
theorem dX2_init_53 : decode bX2_init 53 = .ok (.bipush 6, 2) := by decide +kernel
theorem dX2_init_55 : decode bX2_init 55 = .ok (.newarray .int, 2) := by decide +kernel
theorem dX2_init_57 : decode bX2_init 57 = .ok (.putfield 30, 3) := by decide +kernel
theorem dX2_init_60 : decode bX2_init 60 = .ok (.aload_n 0, 1) := by decide +kernel
theorem dX2_init_61 : decode bX2_init 61 = .ok (.aload_n 1, 1) := by decide +kernel
theorem dX2_init_62 : decode bX2_init 62 = .ok (.putfield 33, 3) := by decide +kernel
theorem dX2_init_65 : decode bX2_init 65 = .ok (.aload_n 0, 1) := by decide +kernel
theorem dX2_init_66 : decode bX2_init 66 = .ok (.aload_n 1, 1) := by decide +kernel
theorem dX2_init_67 : decode bX2_init 67 = .ok (.getfield 37, 3) := by decide +kernel
theorem dX2_init_70 : decode bX2_init 70 = .ok (.putfield 43, 3) := by decide +kernel
theorem dX2_init_73 : decode bX2_init 73 = .ok (.return_, 1) := by decide +kernel
theorem dX2_follow_0 : decode bX2_follow 0 = .ok (.aload_n 0, 1) := by decide +kernel
theorem dX2_follow_1 : decode bX2_follow 1 = .ok (.aload_n 0, 1) := by decide +kernel
theorem dX2_follow_2 : decode bX2_follow 2 = .ok (.getfield 33, 3) := by decide +kernel
theorem dX2_follow_5 : decode bX2_follow 5 = .ok (.getfield 44, 3) := by decide +kernel
theorem dX2_follow_8 : decode bX2_follow 8 = .ok (.getfield 48, 3) := by decide +kernel
theorem dX2_follow_11 : decode bX2_follow 11 = .ok (.iload_n 1, 1) := by decide +kernel
theorem dX2_follow_12 : decode bX2_follow 12 = .ok (.ior, 1) := by decide +kernel
theorem dX2_follow_13 : decode bX2_follow 13 = .ok (.putfield 54, 3) := by decide +kernel
theorem dX2_follow_16 : decode bX2_follow 16 = .ok (.aload_n 0, 1) := by decide +kernel
theorem dX2_follow_17 : decode bX2_follow 17 = .ok (.getfield 43, 3) := by decide +kernel
theorem dX2_follow_20 : decode bX2_follow 20 = .ok (.getfield 55, 3) := by decide +kernel
theorem dX2_follow_23 : decode bX2_follow 23 = .ok (.iconst 2, 1) := by decide +kernel
theorem dX2_follow_24 : decode bX2_follow 24 = .ok (.if_icmp .ne 8, 3) := by decide +kernel
theorem dX2_follow_27 : decode bX2_follow 27 = .ok (.bipush 63, 2) := by decide +kernel
theorem dX2_follow_29 : decode bX2_follow 29 = .ok (.goto 4, 3) := by decide +kernel
theorem dX2_follow_32 : decode bX2_follow 32 = .ok (.iload_n 3, 1) := by decide +kernel
theorem dX2_follow_33 : decode bX2_follow 33 = .ok (.istore 4, 2) := by decide +kernel
theorem dX2_follow_35 : decode bX2_follow 35 = .ok (.iload_n 2, 1) := by decide +kernel
theorem dX2_follow_36 : decode bX2_follow 36 = .ok (.bipush 14, 2) := by decide +kernel
theorem dX2_follow_38 : decode bX2_follow 38 = .ok (.invokestatic 60, 3) := by decide +kernel
theorem dX2_follow_41 : decode bX2_follow 41 = .ok (.istore 5, 2) := by decide +kernel
theorem dX2_follow_43 : decode bX2_follow 43 = .ok (.iconst 0, 1) := by decide +kernel
theorem dX2_follow_44 : decode bX2_follow 44 = .ok (.istore 6, 2) := by decide +kernel
theorem dX2_follow_46 : decode bX2_follow 46 = .ok (.iload 6, 2) := by decide +kernel
theorem dX2_follow_48 : decode bX2_follow 48 = .ok (.aload_n 0, 1) := by decide +kernel
theorem dX2_follow_49 : decode bX2_follow 49 = .ok (.getfield 43, 3) := by decide +kernel
theorem dX2_follow_52 : decode bX2_follow 52 = .ok (.getfield 66, 3) := by decide +kernel
theorem dX2_follow_55 : decode bX2_follow 55 = .ok (.if_icmp .ge 27, 3) := by decide +kernel
theorem dX2_follow_58 : decode bX2_follow 58 = .ok (.iload 4, 2) := by decide +kernel
theorem dX2_follow_60 : decode bX2_follow 60 = .ok (.iload 6, 2) := by decide +kernel
theorem dX2_follow_62 : decode bX2_follow 62 = .ok (.ishr, 1) := by decide +kernel
theorem dX2_follow_63 : decode bX2_follow 63 = .ok (.iconst 1, 1) := by decide +kernel
theorem dX2_follow_64 : decode bX2_follow 64 = .ok (.iand, 1) := by decide +kernel
theorem dX2_follow_65 : decode bX2_follow 65 = .ok (.ifCond .eq 11, 3) := by decide +kernel
theorem dX2_follow_68 : decode bX2_follow 68 = .ok (.aload_n 0, 1) := by decide +kernel
theorem dX2_follow_69 : decode bX2_follow 69 = .ok (.iload 6, 2) := by decide +kernel
theorem dX2_follow_71 : decode bX2_follow 71 = .ok (.iload 5, 2) := by decide +kernel
theorem dX2_follow_73 : decode bX2_follow 73 = .ok (.invokevirtual 69, 3) := by decide +kernel
theorem dX2_follow_76 : decode bX2_follow 76 = .ok (.iinc 6 1, 3) := by decide +kernel
theorem dX2_follow_79 : decode bX2_follow 79 = .ok (.goto (-33), 3) := by decide +kernel
theorem dX2_follow_82 : decode bX2_follow 82 = .ok (.iconst 0, 1) := by decide +kernel
theorem dX2_follow_83 : decode bX2_follow 83 = .ok (.istore 6, 2) := by decide +kernel
theorem dX2_follow_85 : decode bX2_follow 85 = .ok (.iload 6, 2) := by decide +kernel
theorem dX2_follow_87 : decode bX2_follow 87 = .ok (.iload 5, 2) := by decide +kernel
theorem dX2_follow_89 : decode bX2_follow 89 = .ok (.if_icmp .ge 48, 3) := by decide +kernel
theorem dX2_follow_92 : decode bX2_follow 92 = .ok (.iconst 0, 1) := by decide +kernel
theorem dX2_follow_93 : decode bX2_follow 93 = .ok (.istore 7, 2) := by decide +kernel
theorem dX2_follow_95 : decode bX2_follow 95 = .ok (.iload 7, 2) := by decide +kernel
theorem dX2_follow_97 : decode bX2_follow 97 = .ok (.aload_n 0, 1) := by decide +kernel
theorem dX2_follow_98 : decode bX2_follow 98 = .ok (.getfield 43, 3) := by decide +kernel
theorem dX2_follow_101 : decode bX2_follow 101 = .ok (.getfield 66, 3) := by decide +kernel
theorem dX2_follow_104 : decode bX2_follow 104 = .ok (.if_icmp .ge 27, 3) := by decide +kernel
theorem dX2_follow_107 : decode bX2_follow 107 = .ok (.iload 4, 2) := by decide +kernel
theorem dX2_follow_109 : decode bX2_follow 109 = .ok (.iload 7, 2) := by decide +kernel
theorem dX2_follow_111 : decode bX2_follow 111 = .ok (.ishr, 1) := by decide +kernel
theorem dX2_follow_112 : decode bX2_follow 112 = .ok (.iconst 1, 1) := by decide +kernel
theorem dX2_follow_113 : decode bX2_follow 113 = .ok (.iand, 1) := by decide +kernel
theorem dX2_follow_114 : decode bX2_follow 114 = .ok (.ifCond .eq 11, 3) := by decide +kernel
theorem dX2_follow_117 : decode bX2_follow 117 = .ok (.aload_n 0, 1) := by decide +kernel
theorem dX2_follow_118 : decode bX2_follow 118 = .ok (.iload 7, 2) := by decide +kernel
theorem dX2_follow_120 : decode bX2_follow 120 = .ok (.iload 6, 2) := by decide +kernel
theorem dX2_follow_122 : decode bX2_follow 122 = .ok (.invokevirtual 73, 3) := by decide +kernel
theorem dX2_follow_125 : decode bX2_follow 125 = .ok (.iinc 7 1, 3) := by decide +kernel
theorem dX2_follow_128 : decode bX2_follow 128 = .ok (.goto (-33), 3) := by decide +kernel
theorem dX2_follow_131 : decode bX2_follow 131 = .ok (.iinc 6 1, 3) := by decide +kernel
theorem dX2_follow_134 : decode bX2_follow 134 = .ok (.goto (-49), 3) := by decide +kernel
theorem dX2_follow_137 : decode bX2_follow 137 = .ok (.return_, 1) := by decide +kernel
theorem dX2_begin_0 : decode bX2_begin 0 = .ok (.iload_n 1, 1) := by decide +kernel
theorem dX2_begin_1 : decode bX2_begin 1 = .ok (.bipush 15, 2) := by decide +kernel
theorem dX2_begin_3 : decode bX2_begin 3 = .ok (.imul, 1) := by decide +kernel
theorem dX2_begin_4 : decode bX2_begin 4 = .ok (.istore_n 3, 1) := by decide +kernel
theorem dX2_begin_5 : decode bX2_begin 5 = .ok (.aload_n 0, 1) := by decide +kernel
theorem dX2_begin_6 : decode bX2_begin 6 = .ok (.getfield 15, 3) := by decide +kernel
theorem dX2_begin_9 : decode bX2_begin 9 = .ok (.iload_n 3, 1) := by decide +kernel
theorem dX2_begin_10 : decode bX2_begin 10 = .ok (.aload_n 0, 1) := by decide +kernel
theorem dX2_begin_11 : decode bX2_begin 11 = .ok (.getfield 43, 3) := by decide +kernel
theorem dX2_begin_14 : decode bX2_begin 14 = .ok (.getfield 76, 3) := by decide +kernel
theorem dX2_begin_17 : decode bX2_begin 17 = .ok (.iload_n 1, 1) := by decide +kernel
theorem dX2_begin_18 : decode bX2_begin 18 = .ok (.iaload, 1) := by decide +kernel
theorem dX2_begin_19 : decode bX2_begin 19 = .ok (.iastore, 1) := by decide +kernel
theorem dX2_begin_20 : decode bX2_begin 20 = .ok (.aload_n 0, 1) := by decide +kernel
theorem dX2_begin_21 : decode bX2_begin 21 = .ok (.getfield 18, 3) := by decide +kernel
theorem dX2_begin_24 : decode bX2_begin 24 = .ok (.iload_n 3, 1) := by decide +kernel
theorem dX2_begin_25 : decode bX2_begin 25 = .ok (.aload_n 0, 1) := by decide +kernel
theorem dX2_begin_26 : decode bX2_begin 26 = .ok (.getfield 43, 3) := by decide +kernel
theorem dX2_begin_29 : decode bX2_begin 29 = .ok (.getfield 76, 3) := by decide +kernel
theorem dX2_begin_32 : decode bX2_begin 32 = .ok (.iload_n 1, 1) := by decide +kernel
theorem dX2_begin_33 : decode bX2_begin 33 = .ok (.iaload, 1) := by decide +kernel
theorem dX2_begin_34 : decode bX2_begin 34 = .ok (.iastore, 1) := by decide +kernel
theorem dX2_begin_35 : decode bX2_begin 35 = .ok (.aload_n 0, 1) := by decide +kernel
theorem dX2_begin_36 : decode bX2_begin 36 = .ok (.getfield 21, 3) := by decide +kernel
theorem dX2_begin_39 : decode bX2_begin 39 = .ok (.iload_n 1, 1) := by decide +kernel
theorem dX2_begin_40 : decode bX2_begin 40 = .ok (.iconst (-1), 1) := by decide +kernel
theorem dX2_begin_41 : decode bX2_begin 41 = .ok (.iastore, 1) := by decide +kernel
theorem dX2_begin_42 : decode bX2_begin 42 = .ok (.aload_n 0, 1) := by decide +kernel
theorem dX2_begin_43 : decode bX2_begin 43 = .ok (.getfield 24, 3) := by decide +kernel
theorem dX2_begin_46 : decode bX2_begin 46 = .ok (.iload_n 1, 1) := by decide +kernel
theorem dX2_begin_47 : decode bX2_begin 47 = .ok (.iconst 0, 1) := by decide +kernel
theorem dX2_begin_48 : decode bX2_begin 48 = .ok (.iastore, 1) := by decide +kernel
theorem dX2_begin_49 : decode bX2_begin 49 = .ok (.aload_n 0, 1) := by decide +kernel
theorem dX2_begin_50 : decode bX2_begin 50 = .ok (.getfield 27, 3) := by decide +kernel
theorem dX2_begin_53 : decode bX2_begin 53 = .ok (.iload_n 1, 1) := by decide +kernel
theorem dX2_begin_54 : decode bX2_begin 54 = .ok (.iconst (-1), 1) := by decide +kernel
theorem dX2_begin_55 : decode bX2_begin 55 = .ok (.iastore, 1) := by decide +kernel
theorem dX2_begin_56 : decode bX2_begin 56 = .ok (.aload_n 0, 1) := by decide +kernel
theorem dX2_begin_57 : decode bX2_begin 57 = .ok (.getfield 30, 3) := by decide +kernel
theorem dX2_begin_60 : decode bX2_begin 60 = .ok (.iload_n 1, 1) := by decide +kernel
theorem dX2_begin_61 : decode bX2_begin 61 = .ok (.iconst (-1), 1) := by decide +kernel
theorem dX2_begin_62 : decode bX2_begin 62 = .ok (.iastore, 1) := by decide +kernel
theorem dX2_begin_63 : decode bX2_begin 63 = .ok (.iconst 0, 1) := by decide +kernel
theorem dX2_begin_64 : decode bX2_begin 64 = .ok (.istore 4, 2) := by decide +kernel
theorem dX2_begin_66 : decode bX2_begin 66 = .ok (.iload 4, 2) := by decide +kernel
theorem dX2_begin_68 : decode bX2_begin 68 = .ok (.iload_n 2, 1) := by decide +kernel
theorem dX2_begin_69 : decode bX2_begin 69 = .ok (.if_icmp .gt 28, 3) := by decide +kernel
theorem dX2_begin_72 : decode bX2_begin 72 = .ok (.aload_n 0, 1) := by decide +kernel
theorem dX2_begin_73 : decode bX2_begin 73 = .ok (.getfield 9, 3) := by decide +kernel
theorem dX2_begin_76 : decode bX2_begin 76 = .ok (.iload_n 3, 1) := by decide +kernel
theorem dX2_begin_77 : decode bX2_begin 77 = .ok (.iload 4, 2) := by decide +kernel
theorem dX2_begin_79 : decode bX2_begin 79 = .ok (.iadd, 1) := by decide +kernel
theorem dX2_begin_80 : decode bX2_begin 80 = .ok (.aload_n 0, 1) := by decide +kernel
theorem dX2_begin_81 : decode bX2_begin 81 = .ok (.getfield 43, 3) := by decide +kernel
theorem dX2_begin_84 : decode bX2_begin 84 = .ok (.iload_n 1, 1) := by decide +kernel
theorem dX2_begin_85 : decode bX2_begin 85 = .ok (.iload 4, 2) := by decide +kernel
theorem dX2_begin_87 : decode bX2_begin 87 = .ok (.invokevirtual 79, 3) := by decide +kernel
theorem dX2_begin_90 : decode bX2_begin 90 = .ok (.iastore, 1) := by decide +kernel
theorem dX2_begin_91 : decode bX2_begin 91 = .ok (.iinc 4 1, 3) := by decide +kernel
theorem dX2_begin_94 : decode bX2_begin 94 = .ok (.goto (-28), 3) := by decide +kernel
theorem dX2_begin_97 : decode bX2_begin 97 = .ok (.return_, 1) := by decide +kernel
theorem dX2_advance_0 : decode bX2_advance 0 = .ok (.iload_n 1, 1) := by decide +kernel
theorem dX2_advance_1 : decode bX2_advance 1 = .ok (.bipush 15, 2) := by decide +kernel
theorem dX2_advance_3 : decode bX2_advance 3 = .ok (.imul, 1) := by decide +kernel
theorem dX2_advance_4 : decode bX2_advance 4 = .ok (.iload_n 2, 1) := by decide +kernel
theorem dX2_advance_5 : decode bX2_advance 5 = .ok (.iadd, 1) := by decide +kernel
theorem dX2_advance_6 : decode bX2_advance 6 = .ok (.istore_n 3, 1) := by decide +kernel
theorem dX2_advance_7 : decode bX2_advance 7 = .ok (.aload_n 0, 1) := by decide +kernel
theorem dX2_advance_8 : decode bX2_advance 8 = .ok (.getfield 15, 3) := by decide +kernel
theorem dX2_advance_11 : decode bX2_advance 11 = .ok (.iload_n 3, 1) := by decide +kernel
theorem dX2_advance_12 : decode bX2_advance 12 = .ok (.iconst 1, 1) := by decide +kernel
theorem dX2_advance_13 : decode bX2_advance 13 = .ok (.iadd, 1) := by decide +kernel
theorem dX2_advance_14 : decode bX2_advance 14 = .ok (.aload_n 0, 1) := by decide +kernel
theorem dX2_advance_15 : decode bX2_advance 15 = .ok (.getfield 15, 3) := by decide +kernel
theorem dX2_advance_18 : decode bX2_advance 18 = .ok (.iload_n 3, 1) := by decide +kernel
theorem dX2_advance_19 : decode bX2_advance 19 = .ok (.iaload, 1) := by decide +kernel
theorem dX2_advance_20 : decode bX2_advance 20 = .ok (.iastore, 1) := by decide +kernel
theorem dX2_advance_21 : decode bX2_advance 21 = .ok (.aload_n 0, 1) := by decide +kernel
theorem dX2_advance_22 : decode bX2_advance 22 = .ok (.getfield 18, 3) := by decide +kernel
theorem dX2_advance_25 : decode bX2_advance 25 = .ok (.iload_n 3, 1) := by decide +kernel
theorem dX2_advance_26 : decode bX2_advance 26 = .ok (.iconst 1, 1) := by decide +kernel
theorem dX2_advance_27 : decode bX2_advance 27 = .ok (.iadd, 1) := by decide +kernel
theorem dX2_advance_28 : decode bX2_advance 28 = .ok (.aload_n 0, 1) := by decide +kernel
theorem dX2_advance_29 : decode bX2_advance 29 = .ok (.getfield 18, 3) := by decide +kernel
theorem dX2_advance_32 : decode bX2_advance 32 = .ok (.iload_n 3, 1) := by decide +kernel
theorem dX2_advance_33 : decode bX2_advance 33 = .ok (.iaload, 1) := by decide +kernel
theorem dX2_advance_34 : decode bX2_advance 34 = .ok (.iastore, 1) := by decide +kernel
theorem dX2_advance_35 : decode bX2_advance 35 = .ok (.aload_n 0, 1) := by decide +kernel
theorem dX2_advance_36 : decode bX2_advance 36 = .ok (.getfield 9, 3) := by decide +kernel
theorem dX2_advance_39 : decode bX2_advance 39 = .ok (.iload_n 3, 1) := by decide +kernel
theorem dX2_advance_40 : decode bX2_advance 40 = .ok (.iaload, 1) := by decide +kernel
theorem dX2_advance_41 : decode bX2_advance 41 = .ok (.istore 4, 2) := by decide +kernel
theorem dX2_advance_43 : decode bX2_advance 43 = .ok (.aload_n 0, 1) := by decide +kernel
theorem dX2_advance_44 : decode bX2_advance 44 = .ok (.getfield 43, 3) := by decide +kernel
theorem dX2_advance_47 : decode bX2_advance 47 = .ok (.getfield 82, 3) := by decide +kernel
theorem dX2_advance_50 : decode bX2_advance 50 = .ok (.iload_n 1, 1) := by decide +kernel
theorem dX2_advance_51 : decode bX2_advance 51 = .ok (.iaload, 1) := by decide +kernel
theorem dX2_advance_52 : decode bX2_advance 52 = .ok (.istore 5, 2) := by decide +kernel
theorem dX2_advance_54 : decode bX2_advance 54 = .ok (.iload 4, 2) := by decide +kernel
theorem dX2_advance_56 : decode bX2_advance 56 = .ok (.iconst (-1), 1) := by decide +kernel
theorem dX2_advance_57 : decode bX2_advance 57 = .ok (.if_icmp .eq 26, 3) := by decide +kernel
theorem dX2_advance_60 : decode bX2_advance 60 = .ok (.iload 4, 2) := by decide +kernel
theorem dX2_advance_62 : decode bX2_advance 62 = .ok (.bipush 10, 2) := by decide +kernel
theorem dX2_advance_64 : decode bX2_advance 64 = .ok (.if_icmp .eq 19, 3) := by decide +kernel
theorem dX2_advance_67 : decode bX2_advance 67 = .ok (.aload_n 0, 1) := by decide +kernel
theorem dX2_advance_68 : decode bX2_advance 68 = .ok (.getfield 21, 3) := by decide +kernel
theorem dX2_advance_71 : decode bX2_advance 71 = .ok (.iload_n 1, 1) := by decide +kernel
theorem dX2_advance_72 : decode bX2_advance 72 = .ok (.iaload, 1) := by decide +kernel
theorem dX2_advance_73 : decode bX2_advance 73 = .ok (.iconst (-1), 1) := by decide +kernel
theorem dX2_advance_74 : decode bX2_advance 74 = .ok (.if_icmp .ne 9, 3) := by decide +kernel
theorem dX2_advance_77 : decode bX2_advance 77 = .ok (.iload 5, 2) := by decide +kernel
theorem dX2_advance_79 : decode bX2_advance 79 = .ok (.iconst 1, 1) := by decide +kernel
theorem dX2_advance_80 : decode bX2_advance 80 = .ok (.if_icmp .ge 4, 3) := by decide +kernel
theorem dX2_advance_83 : decode bX2_advance 83 = .ok (.return_, 1) := by decide +kernel
theorem dX2_advance_84 : decode bX2_advance 84 = .ok (.aload_n 0, 1) := by decide +kernel
theorem dX2_advance_85 : decode bX2_advance 85 = .ok (.getfield 33, 3) := by decide +kernel
theorem dX2_advance_88 : decode bX2_advance 88 = .ok (.iload 4, 2) := by decide +kernel
theorem dX2_advance_90 : decode bX2_advance 90 = .ok (.iload_n 2, 1) := by decide +kernel
theorem dX2_advance_91 : decode bX2_advance 91 = .ok (.aload_n 0, 1) := by decide +kernel
theorem dX2_advance_92 : decode bX2_advance 92 = .ok (.getfield 54, 3) := by decide +kernel
theorem dX2_advance_95 : decode bX2_advance 95 = .ok (.invokevirtual 85, 3) := by decide +kernel
theorem dX2_advance_98 : decode bX2_advance 98 = .ok (.istore 6, 2) := by decide +kernel
theorem dX2_advance_100 : decode bX2_advance 100 = .ok (.aload_n 0, 1) := by decide +kernel
theorem dX2_advance_101 : decode bX2_advance 101 = .ok (.getfield 43, 3) := by decide +kernel
theorem dX2_advance_104 : decode bX2_advance 104 = .ok (.getfield 55, 3) := by decide +kernel
theorem dX2_advance_107 : decode bX2_advance 107 = .ok (.iconst 2, 1) := by decide +kernel
theorem dX2_advance_108 : decode bX2_advance 108 = .ok (.if_icmp .ne 15, 3) := by decide +kernel
theorem dX2_advance_111 : decode bX2_advance 111 = .ok (.aload_n 0, 1) := by decide +kernel
theorem dX2_advance_112 : decode bX2_advance 112 = .ok (.iload_n 1, 1) := by decide +kernel
theorem dX2_advance_113 : decode bX2_advance 113 = .ok (.iload 4, 2) := by decide +kernel
theorem dX2_advance_115 : decode bX2_advance 115 = .ok (.iload_n 2, 1) := by decide +kernel
theorem dX2_advance_116 : decode bX2_advance 116 = .ok (.iload 6, 2) := by decide +kernel
theorem dX2_advance_118 : decode bX2_advance 118 = .ok (.invokevirtual 89, 3) := by decide +kernel
theorem dX2_advance_121 : decode bX2_advance 121 = .ok (.istore 6, 2) := by decide +kernel
theorem dX2_advance_123 : decode bX2_advance 123 = .ok (.aload_n 0, 1) := by decide +kernel
theorem dX2_advance_124 : decode bX2_advance 124 = .ok (.getfield 15, 3) := by decide +kernel
theorem dX2_advance_127 : decode bX2_advance 127 = .ok (.iload_n 3, 1) := by decide +kernel
theorem dX2_advance_128 : decode bX2_advance 128 = .ok (.iconst 1, 1) := by decide +kernel
theorem dX2_advance_129 : decode bX2_advance 129 = .ok (.iadd, 1) := by decide +kernel
theorem dX2_advance_130 : decode bX2_advance 130 = .ok (.dup2, 1) := by decide +kernel
theorem dX2_advance_131 : decode bX2_advance 131 = .ok (.iaload, 1) := by decide +kernel
theorem dX2_advance_132 : decode bX2_advance 132 = .ok (.aload_n 0, 1) := by decide +kernel
theorem dX2_advance_133 : decode bX2_advance 133 = .ok (.iload 6, 2) := by decide +kernel
theorem dX2_advance_135 : decode bX2_advance 135 = .ok (.aload_n 0, 1) := by decide +kernel
theorem dX2_advance_136 : decode bX2_advance 136 = .ok (.getfield 15, 3) := by decide +kernel
theorem dX2_advance_139 : decode bX2_advance 139 = .ok (.iload_n 3, 1) := by decide +kernel
theorem dX2_advance_140 : decode bX2_advance 140 = .ok (.iaload, 1) := by decide +kernel
theorem dX2_advance_141 : decode bX2_advance 141 = .ok (.isub, 1) := by decide +kernel
theorem dX2_advance_142 : decode bX2_advance 142 = .ok (.invokevirtual 93, 3) := by decide +kernel
theorem dX2_advance_145 : decode bX2_advance 145 = .ok (.iadd, 1) := by decide +kernel
theorem dX2_advance_146 : decode bX2_advance 146 = .ok (.iastore, 1) := by decide +kernel
theorem dX2_advance_147 : decode bX2_advance 147 = .ok (.aload_n 0, 1) := by decide +kernel
theorem dX2_advance_148 : decode bX2_advance 148 = .ok (.getfield 18, 3) := by decide +kernel
theorem dX2_advance_151 : decode bX2_advance 151 = .ok (.iload_n 3, 1) := by decide +kernel
theorem dX2_advance_152 : decode bX2_advance 152 = .ok (.iconst 1, 1) := by decide +kernel
theorem dX2_advance_153 : decode bX2_advance 153 = .ok (.iadd, 1) := by decide +kernel
theorem dX2_advance_154 : decode bX2_advance 154 = .ok (.dup2, 1) := by decide +kernel
theorem dX2_advance_155 : decode bX2_advance 155 = .ok (.iaload, 1) := by decide +kernel
theorem dX2_advance_156 : decode bX2_advance 156 = .ok (.aload_n 0, 1) := by decide +kernel
theorem dX2_advance_157 : decode bX2_advance 157 = .ok (.getfield 15, 3) := by decide +kernel
theorem dX2_advance_160 : decode bX2_advance 160 = .ok (.iload_n 3, 1) := by decide +kernel
theorem dX2_advance_161 : decode bX2_advance 161 = .ok (.iconst 1, 1) := by decide +kernel
theorem dX2_advance_162 : decode bX2_advance 162 = .ok (.iadd, 1) := by decide +kernel
theorem dX2_advance_163 : decode bX2_advance 163 = .ok (.iaload, 1) := by decide +kernel
theorem dX2_advance_164 : decode bX2_advance 164 = .ok (.aload_n 0, 1) := by decide +kernel
theorem dX2_advance_165 : decode bX2_advance 165 = .ok (.getfield 18, 3) := by decide +kernel
theorem dX2_advance_168 : decode bX2_advance 168 = .ok (.iload_n 3, 1) := by decide +kernel
theorem dX2_advance_169 : decode bX2_advance 169 = .ok (.iaload, 1) := by decide +kernel
theorem dX2_advance_170 : decode bX2_advance 170 = .ok (.isub, 1) := by decide +kernel
theorem dX2_advance_171 : decode bX2_advance 171 = .ok (.iload 5, 2) := by decide +kernel
theorem dX2_advance_173 : decode bX2_advance 173 = .ok (.idiv, 1) := by decide +kernel
theorem dX2_advance_174 : decode bX2_advance 174 = .ok (.iadd, 1) := by decide +kernel
theorem dX2_advance_175 : decode bX2_advance 175 = .ok (.iastore, 1) := by decide +kernel
theorem dX2_advance_176 : decode bX2_advance 176 = .ok (.aload_n 0, 1) := by decide +kernel
theorem dX2_advance_177 : decode bX2_advance 177 = .ok (.iload_n 1, 1) := by decide +kernel
theorem dX2_advance_178 : decode bX2_advance 178 = .ok (.iload_n 2, 1) := by decide +kernel
theorem dX2_advance_179 : decode bX2_advance 179 = .ok (.iconst 1, 1) := by decide +kernel
theorem dX2_advance_180 : decode bX2_advance 180 = .ok (.iadd, 1) := by decide +kernel
theorem dX2_advance_181 : decode bX2_advance 181 = .ok (.invokevirtual 97, 3) := by decide +kernel
theorem dX2_advance_184 : decode bX2_advance 184 = .ok (.return_, 1) := by decide +kernel
theorem dX2_warmingBy_0 : decode bX2_warmingBy 0 = .ok (.aload_n 0, 1) := by decide +kernel
theorem dX2_warmingBy_1 : decode bX2_warmingBy 1 = .ok (.getfield 43, 3) := by decide +kernel
theorem dX2_warmingBy_4 : decode bX2_warmingBy 4 = .ok (.getfield 55, 3) := by decide +kernel
theorem dX2_warmingBy_7 : decode bX2_warmingBy 7 = .ok (.lookupswitch 43 #[(1, 25), (3, 39)], 25) := by decide +kernel
theorem dX2_warmingBy_32 : decode bX2_warmingBy 32 = .ok (.bipush (-60), 2) := by decide +kernel
theorem dX2_warmingBy_34 : decode bX2_warmingBy 34 = .ok (.iload_n 1, 1) := by decide +kernel
theorem dX2_warmingBy_35 : decode bX2_warmingBy 35 = .ok (.iconst 2, 1) := by decide +kernel
theorem dX2_warmingBy_36 : decode bX2_warmingBy 36 = .ok (.idiv, 1) := by decide +kernel
theorem dX2_warmingBy_37 : decode bX2_warmingBy 37 = .ok (.bipush 60, 2) := by decide +kernel
theorem dX2_warmingBy_39 : decode bX2_warmingBy 39 = .ok (.invokestatic 60, 3) := by decide +kernel
theorem dX2_warmingBy_42 : decode bX2_warmingBy 42 = .ok (.invokestatic 100, 3) := by decide +kernel
theorem dX2_warmingBy_45 : decode bX2_warmingBy 45 = .ok (.ireturn, 1) := by decide +kernel
theorem dX2_warmingBy_46 : decode bX2_warmingBy 46 = .ok (.iload_n 1, 1) := by decide +kernel
theorem dX2_warmingBy_47 : decode bX2_warmingBy 47 = .ok (.iconst 3, 1) := by decide +kernel
theorem dX2_warmingBy_48 : decode bX2_warmingBy 48 = .ok (.idiv, 1) := by decide +kernel
theorem dX2_warmingBy_49 : decode bX2_warmingBy 49 = .ok (.ireturn, 1) := by decide +kernel
theorem dX2_warmingBy_50 : decode bX2_warmingBy 50 = .ok (.iload_n 1, 1) := by decide +kernel
theorem dX2_warmingBy_51 : decode bX2_warmingBy 51 = .ok (.iconst 2, 1) := by decide +kernel
theorem dX2_warmingBy_52 : decode bX2_warmingBy 52 = .ok (.idiv, 1) := by decide +kernel
theorem dX2_warmingBy_53 : decode bX2_warmingBy 53 = .ok (.ireturn, 1) := by decide +kernel
theorem dX2_meanAround_0 : decode bX2_meanAround 0 = .ok (.iload 4, 2) := by decide +kernel
theorem dX2_meanAround_2 : decode bX2_meanAround 2 = .ok (.istore 5, 2) := by decide +kernel
theorem dX2_meanAround_4 : decode bX2_meanAround 4 = .ok (.iconst 1, 1) := by decide +kernel
theorem dX2_meanAround_5 : decode bX2_meanAround 5 = .ok (.istore 6, 2) := by decide +kernel
theorem dX2_meanAround_7 : decode bX2_meanAround 7 = .ok (.iconst 0, 1) := by decide +kernel
theorem dX2_meanAround_8 : decode bX2_meanAround 8 = .ok (.istore 7, 2) := by decide +kernel
theorem dX2_meanAround_10 : decode bX2_meanAround 10 = .ok (.iload 7, 2) := by decide +kernel
theorem dX2_meanAround_12 : decode bX2_meanAround 12 = .ok (.aload_n 0, 1) := by decide +kernel
theorem dX2_meanAround_13 : decode bX2_meanAround 13 = .ok (.getfield 43, 3) := by decide +kernel
theorem dX2_meanAround_16 : decode bX2_meanAround 16 = .ok (.getfield 66, 3) := by decide +kernel
theorem dX2_meanAround_19 : decode bX2_meanAround 19 = .ok (.if_icmp .ge 50, 3) := by decide +kernel
theorem dX2_meanAround_22 : decode bX2_meanAround 22 = .ok (.iload 7, 2) := by decide +kernel
theorem dX2_meanAround_24 : decode bX2_meanAround 24 = .ok (.bipush 15, 2) := by decide +kernel
theorem dX2_meanAround_26 : decode bX2_meanAround 26 = .ok (.imul, 1) := by decide +kernel
theorem dX2_meanAround_27 : decode bX2_meanAround 27 = .ok (.iload_n 3, 1) := by decide +kernel
theorem dX2_meanAround_28 : decode bX2_meanAround 28 = .ok (.iadd, 1) := by decide +kernel
theorem dX2_meanAround_29 : decode bX2_meanAround 29 = .ok (.istore 8, 2) := by decide +kernel
theorem dX2_meanAround_31 : decode bX2_meanAround 31 = .ok (.iload 7, 2) := by decide +kernel
theorem dX2_meanAround_33 : decode bX2_meanAround 33 = .ok (.iload_n 1, 1) := by decide +kernel
theorem dX2_meanAround_34 : decode bX2_meanAround 34 = .ok (.if_icmp .eq 29, 3) := by decide +kernel
theorem dX2_meanAround_37 : decode bX2_meanAround 37 = .ok (.aload_n 0, 1) := by decide +kernel
theorem dX2_meanAround_38 : decode bX2_meanAround 38 = .ok (.getfield 9, 3) := by decide +kernel
theorem dX2_meanAround_41 : decode bX2_meanAround 41 = .ok (.iload 8, 2) := by decide +kernel
theorem dX2_meanAround_43 : decode bX2_meanAround 43 = .ok (.iaload, 1) := by decide +kernel
theorem dX2_meanAround_44 : decode bX2_meanAround 44 = .ok (.iload_n 2, 1) := by decide +kernel
theorem dX2_meanAround_45 : decode bX2_meanAround 45 = .ok (.if_icmp .ne 18, 3) := by decide +kernel
theorem dX2_meanAround_48 : decode bX2_meanAround 48 = .ok (.iload 5, 2) := by decide +kernel
theorem dX2_meanAround_50 : decode bX2_meanAround 50 = .ok (.aload_n 0, 1) := by decide +kernel
theorem dX2_meanAround_51 : decode bX2_meanAround 51 = .ok (.getfield 15, 3) := by decide +kernel
theorem dX2_meanAround_54 : decode bX2_meanAround 54 = .ok (.iload 8, 2) := by decide +kernel
theorem dX2_meanAround_56 : decode bX2_meanAround 56 = .ok (.iaload, 1) := by decide +kernel
theorem dX2_meanAround_57 : decode bX2_meanAround 57 = .ok (.iadd, 1) := by decide +kernel
theorem dX2_meanAround_58 : decode bX2_meanAround 58 = .ok (.istore 5, 2) := by decide +kernel
theorem dX2_meanAround_60 : decode bX2_meanAround 60 = .ok (.iinc 6 1, 3) := by decide +kernel
theorem dX2_meanAround_63 : decode bX2_meanAround 63 = .ok (.iinc 7 1, 3) := by decide +kernel
theorem dX2_meanAround_66 : decode bX2_meanAround 66 = .ok (.goto (-56), 3) := by decide +kernel
theorem dX2_meanAround_69 : decode bX2_meanAround 69 = .ok (.iload 5, 2) := by decide +kernel
theorem dX2_meanAround_71 : decode bX2_meanAround 71 = .ok (.iload 6, 2) := by decide +kernel
theorem dX2_meanAround_73 : decode bX2_meanAround 73 = .ok (.idiv, 1) := by decide +kernel
theorem dX2_meanAround_74 : decode bX2_meanAround 74 = .ok (.ireturn, 1) := by decide +kernel
theorem dX2_setAndCrack_0 : decode bX2_setAndCrack 0 = .ok (.iload_n 1, 1) := by decide +kernel
theorem dX2_setAndCrack_1 : decode bX2_setAndCrack 1 = .ok (.bipush 15, 2) := by decide +kernel
theorem dX2_setAndCrack_3 : decode bX2_setAndCrack 3 = .ok (.imul, 1) := by decide +kernel
theorem dX2_setAndCrack_4 : decode bX2_setAndCrack 4 = .ok (.iload_n 2, 1) := by decide +kernel
theorem dX2_setAndCrack_5 : decode bX2_setAndCrack 5 = .ok (.iadd, 1) := by decide +kernel
theorem dX2_setAndCrack_6 : decode bX2_setAndCrack 6 = .ok (.istore_n 3, 1) := by decide +kernel
theorem dX2_setAndCrack_7 : decode bX2_setAndCrack 7 = .ok (.aload_n 0, 1) := by decide +kernel
theorem dX2_setAndCrack_8 : decode bX2_setAndCrack 8 = .ok (.getfield 15, 3) := by decide +kernel
theorem dX2_setAndCrack_11 : decode bX2_setAndCrack 11 = .ok (.iload_n 3, 1) := by decide +kernel
theorem dX2_setAndCrack_12 : decode bX2_setAndCrack 12 = .ok (.iaload, 1) := by decide +kernel
theorem dX2_setAndCrack_13 : decode bX2_setAndCrack 13 = .ok (.aload_n 0, 1) := by decide +kernel
theorem dX2_setAndCrack_14 : decode bX2_setAndCrack 14 = .ok (.getfield 18, 3) := by decide +kernel
theorem dX2_setAndCrack_17 : decode bX2_setAndCrack 17 = .ok (.iload_n 3, 1) := by decide +kernel
theorem dX2_setAndCrack_18 : decode bX2_setAndCrack 18 = .ok (.iaload, 1) := by decide +kernel
theorem dX2_setAndCrack_19 : decode bX2_setAndCrack 19 = .ok (.isub, 1) := by decide +kernel
theorem dX2_setAndCrack_20 : decode bX2_setAndCrack 20 = .ok (.invokestatic 103, 3) := by decide +kernel
theorem dX2_setAndCrack_23 : decode bX2_setAndCrack 23 = .ok (.istore 4, 2) := by decide +kernel
theorem dX2_setAndCrack_25 : decode bX2_setAndCrack 25 = .ok (.aload_n 0, 1) := by decide +kernel
theorem dX2_setAndCrack_26 : decode bX2_setAndCrack 26 = .ok (.getfield 18, 3) := by decide +kernel
theorem dX2_setAndCrack_29 : decode bX2_setAndCrack 29 = .ok (.iload_n 3, 1) := by decide +kernel
theorem dX2_setAndCrack_30 : decode bX2_setAndCrack 30 = .ok (.iconst 1, 1) := by decide +kernel
theorem dX2_setAndCrack_31 : decode bX2_setAndCrack 31 = .ok (.isub, 1) := by decide +kernel
theorem dX2_setAndCrack_32 : decode bX2_setAndCrack 32 = .ok (.iaload, 1) := by decide +kernel
theorem dX2_setAndCrack_33 : decode bX2_setAndCrack 33 = .ok (.aload_n 0, 1) := by decide +kernel
theorem dX2_setAndCrack_34 : decode bX2_setAndCrack 34 = .ok (.getfield 43, 3) := by decide +kernel
theorem dX2_setAndCrack_37 : decode bX2_setAndCrack 37 = .ok (.getfield 106, 3) := by decide +kernel
theorem dX2_setAndCrack_40 : decode bX2_setAndCrack 40 = .ok (.if_icmp .lt 34, 3) := by decide +kernel
theorem dX2_setAndCrack_43 : decode bX2_setAndCrack 43 = .ok (.aload_n 0, 1) := by decide +kernel
theorem dX2_setAndCrack_44 : decode bX2_setAndCrack 44 = .ok (.getfield 18, 3) := by decide +kernel
theorem dX2_setAndCrack_47 : decode bX2_setAndCrack 47 = .ok (.iload_n 3, 1) := by decide +kernel
theorem dX2_setAndCrack_48 : decode bX2_setAndCrack 48 = .ok (.iaload, 1) := by decide +kernel
theorem dX2_setAndCrack_49 : decode bX2_setAndCrack 49 = .ok (.aload_n 0, 1) := by decide +kernel
theorem dX2_setAndCrack_50 : decode bX2_setAndCrack 50 = .ok (.getfield 43, 3) := by decide +kernel
theorem dX2_setAndCrack_53 : decode bX2_setAndCrack 53 = .ok (.getfield 106, 3) := by decide +kernel
theorem dX2_setAndCrack_56 : decode bX2_setAndCrack 56 = .ok (.if_icmp .ge 18, 3) := by decide +kernel
theorem dX2_setAndCrack_59 : decode bX2_setAndCrack 59 = .ok (.aload_n 0, 1) := by decide +kernel
theorem dX2_setAndCrack_60 : decode bX2_setAndCrack 60 = .ok (.getfield 27, 3) := by decide +kernel
theorem dX2_setAndCrack_63 : decode bX2_setAndCrack 63 = .ok (.iload_n 1, 1) := by decide +kernel
theorem dX2_setAndCrack_64 : decode bX2_setAndCrack 64 = .ok (.iload 4, 2) := by decide +kernel
theorem dX2_setAndCrack_66 : decode bX2_setAndCrack 66 = .ok (.iastore, 1) := by decide +kernel
theorem dX2_setAndCrack_67 : decode bX2_setAndCrack 67 = .ok (.aload_n 0, 1) := by decide +kernel
theorem dX2_setAndCrack_68 : decode bX2_setAndCrack 68 = .ok (.getfield 30, 3) := by decide +kernel
theorem dX2_setAndCrack_71 : decode bX2_setAndCrack 71 = .ok (.iload_n 1, 1) := by decide +kernel
theorem dX2_setAndCrack_72 : decode bX2_setAndCrack 72 = .ok (.iload_n 2, 1) := by decide +kernel
theorem dX2_setAndCrack_73 : decode bX2_setAndCrack 73 = .ok (.iastore, 1) := by decide +kernel
theorem dX2_setAndCrack_74 : decode bX2_setAndCrack 74 = .ok (.iload 4, 2) := by decide +kernel
theorem dX2_setAndCrack_76 : decode bX2_setAndCrack 76 = .ok (.aload_n 0, 1) := by decide +kernel
theorem dX2_setAndCrack_77 : decode bX2_setAndCrack 77 = .ok (.getfield 43, 3) := by decide +kernel
theorem dX2_setAndCrack_80 : decode bX2_setAndCrack 80 = .ok (.getfield 109, 3) := by decide +kernel
theorem dX2_setAndCrack_83 : decode bX2_setAndCrack 83 = .ok (.iload_n 1, 1) := by decide +kernel
theorem dX2_setAndCrack_84 : decode bX2_setAndCrack 84 = .ok (.iaload, 1) := by decide +kernel
theorem dX2_setAndCrack_85 : decode bX2_setAndCrack 85 = .ok (.if_icmp .le 20, 3) := by decide +kernel
theorem dX2_setAndCrack_88 : decode bX2_setAndCrack 88 = .ok (.aload_n 0, 1) := by decide +kernel
theorem dX2_setAndCrack_89 : decode bX2_setAndCrack 89 = .ok (.getfield 21, 3) := by decide +kernel
theorem dX2_setAndCrack_92 : decode bX2_setAndCrack 92 = .ok (.iload_n 1, 1) := by decide +kernel
theorem dX2_setAndCrack_93 : decode bX2_setAndCrack 93 = .ok (.iload_n 2, 1) := by decide +kernel
theorem dX2_setAndCrack_94 : decode bX2_setAndCrack 94 = .ok (.iastore, 1) := by decide +kernel
theorem dX2_setAndCrack_95 : decode bX2_setAndCrack 95 = .ok (.aload_n 0, 1) := by decide +kernel
theorem dX2_setAndCrack_96 : decode bX2_setAndCrack 96 = .ok (.getfield 24, 3) := by decide +kernel
theorem dX2_setAndCrack_99 : decode bX2_setAndCrack 99 = .ok (.iload_n 1, 1) := by decide +kernel
theorem dX2_setAndCrack_100 : decode bX2_setAndCrack 100 = .ok (.iconst 1, 1) := by decide +kernel
theorem dX2_setAndCrack_101 : decode bX2_setAndCrack 101 = .ok (.iastore, 1) := by decide +kernel
theorem dX2_setAndCrack_102 : decode bX2_setAndCrack 102 = .ok (.goto 48, 3) := by decide +kernel
theorem dX2_setAndCrack_105 : decode bX2_setAndCrack 105 = .ok (.aload_n 0, 1) := by decide +kernel
theorem dX2_setAndCrack_106 : decode bX2_setAndCrack 106 = .ok (.getfield 9, 3) := by decide +kernel
theorem dX2_setAndCrack_109 : decode bX2_setAndCrack 109 = .ok (.iload_n 3, 1) := by decide +kernel
theorem dX2_setAndCrack_110 : decode bX2_setAndCrack 110 = .ok (.iaload, 1) := by decide +kernel
theorem dX2_setAndCrack_111 : decode bX2_setAndCrack 111 = .ok (.bipush 10, 2) := by decide +kernel
theorem dX2_setAndCrack_113 : decode bX2_setAndCrack 113 = .ok (.if_icmp .ne 37, 3) := by decide +kernel
theorem dX2_setAndCrack_116 : decode bX2_setAndCrack 116 = .ok (.aload_n 0, 1) := by decide +kernel
theorem dX2_setAndCrack_117 : decode bX2_setAndCrack 117 = .ok (.getfield 27, 3) := by decide +kernel
theorem dX2_setAndCrack_120 : decode bX2_setAndCrack 120 = .ok (.iload_n 1, 1) := by decide +kernel
theorem dX2_setAndCrack_121 : decode bX2_setAndCrack 121 = .ok (.iaload, 1) := by decide +kernel
theorem dX2_setAndCrack_122 : decode bX2_setAndCrack 122 = .ok (.aload_n 0, 1) := by decide +kernel
theorem dX2_setAndCrack_123 : decode bX2_setAndCrack 123 = .ok (.getfield 43, 3) := by decide +kernel
theorem dX2_setAndCrack_126 : decode bX2_setAndCrack 126 = .ok (.getfield 109, 3) := by decide +kernel
theorem dX2_setAndCrack_129 : decode bX2_setAndCrack 129 = .ok (.iload_n 1, 1) := by decide +kernel
theorem dX2_setAndCrack_130 : decode bX2_setAndCrack 130 = .ok (.iaload, 1) := by decide +kernel
theorem dX2_setAndCrack_131 : decode bX2_setAndCrack 131 = .ok (.iconst 2, 1) := by decide +kernel
theorem dX2_setAndCrack_132 : decode bX2_setAndCrack 132 = .ok (.idiv, 1) := by decide +kernel
theorem dX2_setAndCrack_133 : decode bX2_setAndCrack 133 = .ok (.if_icmp .le 17, 3) := by decide +kernel
theorem dX2_setAndCrack_136 : decode bX2_setAndCrack 136 = .ok (.aload_n 0, 1) := by decide +kernel
theorem dX2_setAndCrack_137 : decode bX2_setAndCrack 137 = .ok (.getfield 21, 3) := by decide +kernel
theorem dX2_setAndCrack_140 : decode bX2_setAndCrack 140 = .ok (.iload_n 1, 1) := by decide +kernel
theorem dX2_setAndCrack_141 : decode bX2_setAndCrack 141 = .ok (.iload_n 2, 1) := by decide +kernel
theorem dX2_setAndCrack_142 : decode bX2_setAndCrack 142 = .ok (.iastore, 1) := by decide +kernel
theorem dX2_setAndCrack_143 : decode bX2_setAndCrack 143 = .ok (.aload_n 0, 1) := by decide +kernel
theorem dX2_setAndCrack_144 : decode bX2_setAndCrack 144 = .ok (.getfield 24, 3) := by decide +kernel
theorem dX2_setAndCrack_147 : decode bX2_setAndCrack 147 = .ok (.iload_n 1, 1) := by decide +kernel
theorem dX2_setAndCrack_148 : decode bX2_setAndCrack 148 = .ok (.iconst 2, 1) := by decide +kernel
theorem dX2_setAndCrack_149 : decode bX2_setAndCrack 149 = .ok (.iastore, 1) := by decide +kernel
theorem dX2_setAndCrack_150 : decode bX2_setAndCrack 150 = .ok (.return_, 1) := by decide +kernel
theorem dX2_valueAt_0 : decode bX2_valueAt 0 = .ok (.aload_n 0, 1) := by decide +kernel
theorem dX2_valueAt_1 : decode bX2_valueAt 1 = .ok (.getfield 43, 3) := by decide +kernel
theorem dX2_valueAt_4 : decode bX2_valueAt 4 = .ok (.iload_n 2, 1) := by decide +kernel
theorem dX2_valueAt_5 : decode bX2_valueAt 5 = .ok (.invokevirtual 112, 3) := by decide +kernel
theorem dX2_valueAt_8 : decode bX2_valueAt 8 = .ok (.ifCond .eq 13, 3) := by decide +kernel
theorem dX2_valueAt_11 : decode bX2_valueAt 11 = .ok (.iload_n 3, 1) := by decide +kernel
theorem dX2_valueAt_12 : decode bX2_valueAt 12 = .ok (.ifCond .lt 9, 3) := by decide +kernel
theorem dX2_valueAt_15 : decode bX2_valueAt 15 = .ok (.iload_n 3, 1) := by decide +kernel
theorem dX2_valueAt_16 : decode bX2_valueAt 16 = .ok (.bipush 15, 2) := by decide +kernel
theorem dX2_valueAt_18 : decode bX2_valueAt 18 = .ok (.if_icmp .lt 5, 3) := by decide +kernel
theorem dX2_valueAt_21 : decode bX2_valueAt 21 = .ok (.iconst 0, 1) := by decide +kernel
theorem dX2_valueAt_22 : decode bX2_valueAt 22 = .ok (.ireturn, 1) := by decide +kernel
theorem dX2_valueAt_23 : decode bX2_valueAt 23 = .ok (.iload_n 2, 1) := by decide +kernel
theorem dX2_valueAt_24 : decode bX2_valueAt 24 = .ok (.bipush 15, 2) := by decide +kernel
theorem dX2_valueAt_26 : decode bX2_valueAt 26 = .ok (.imul, 1) := by decide +kernel
theorem dX2_valueAt_27 : decode bX2_valueAt 27 = .ok (.iload_n 3, 1) := by decide +kernel
theorem dX2_valueAt_28 : decode bX2_valueAt 28 = .ok (.iadd, 1) := by decide +kernel
theorem dX2_valueAt_29 : decode bX2_valueAt 29 = .ok (.istore 4, 2) := by decide +kernel
theorem dX2_valueAt_31 : decode bX2_valueAt 31 = .ok (.iload_n 1, 1) := by decide +kernel
theorem dX2_valueAt_32 : decode bX2_valueAt 32 = .ok (.lookupswitch 44 #[(0, 28), (1, 36)], 28) := by decide +kernel
theorem dX2_valueAt_60 : decode bX2_valueAt 60 = .ok (.aload_n 0, 1) := by decide +kernel
theorem dX2_valueAt_61 : decode bX2_valueAt 61 = .ok (.getfield 15, 3) := by decide +kernel
theorem dX2_valueAt_64 : decode bX2_valueAt 64 = .ok (.iload 4, 2) := by decide +kernel
theorem dX2_valueAt_66 : decode bX2_valueAt 66 = .ok (.iaload, 1) := by decide +kernel
theorem dX2_valueAt_67 : decode bX2_valueAt 67 = .ok (.ireturn, 1) := by decide +kernel
theorem dX2_valueAt_68 : decode bX2_valueAt 68 = .ok (.aload_n 0, 1) := by decide +kernel
theorem dX2_valueAt_69 : decode bX2_valueAt 69 = .ok (.getfield 18, 3) := by decide +kernel
theorem dX2_valueAt_72 : decode bX2_valueAt 72 = .ok (.iload 4, 2) := by decide +kernel
theorem dX2_valueAt_74 : decode bX2_valueAt 74 = .ok (.iaload, 1) := by decide +kernel
theorem dX2_valueAt_75 : decode bX2_valueAt 75 = .ok (.ireturn, 1) := by decide +kernel
theorem dX2_valueAt_76 : decode bX2_valueAt 76 = .ok (.aload_n 0, 1) := by decide +kernel
theorem dX2_valueAt_77 : decode bX2_valueAt 77 = .ok (.getfield 15, 3) := by decide +kernel
theorem dX2_valueAt_80 : decode bX2_valueAt 80 = .ok (.iload 4, 2) := by decide +kernel
theorem dX2_valueAt_82 : decode bX2_valueAt 82 = .ok (.iaload, 1) := by decide +kernel
theorem dX2_valueAt_83 : decode bX2_valueAt 83 = .ok (.aload_n 0, 1) := by decide +kernel
theorem dX2_valueAt_84 : decode bX2_valueAt 84 = .ok (.getfield 18, 3) := by decide +kernel
theorem dX2_valueAt_87 : decode bX2_valueAt 87 = .ok (.iload 4, 2) := by decide +kernel
theorem dX2_valueAt_89 : decode bX2_valueAt 89 = .ok (.iaload, 1) := by decide +kernel
theorem dX2_valueAt_90 : decode bX2_valueAt 90 = .ok (.isub, 1) := by decide +kernel
theorem dX2_valueAt_91 : decode bX2_valueAt 91 = .ok (.invokestatic 103, 3) := by decide +kernel
theorem dX2_valueAt_94 : decode bX2_valueAt 94 = .ok (.ireturn, 1) := by decide +kernel
theorem dX2_skinAt_0 : decode bX2_skinAt 0 = .ok (.aload_n 0, 1) := by decide +kernel
theorem dX2_skinAt_1 : decode bX2_skinAt 1 = .ok (.iconst 0, 1) := by decide +kernel
theorem dX2_skinAt_2 : decode bX2_skinAt 2 = .ok (.iload_n 1, 1) := by decide +kernel
theorem dX2_skinAt_3 : decode bX2_skinAt 3 = .ok (.iload_n 2, 1) := by decide +kernel
theorem dX2_skinAt_4 : decode bX2_skinAt 4 = .ok (.invokevirtual 116, 3) := by decide +kernel
theorem dX2_skinAt_7 : decode bX2_skinAt 7 = .ok (.ireturn, 1) := by decide +kernel
theorem dX2_strainAt_0 : decode bX2_strainAt 0 = .ok (.aload_n 0, 1) := by decide +kernel
theorem dX2_strainAt_1 : decode bX2_strainAt 1 = .ok (.iconst 2, 1) := by decide +kernel
theorem dX2_strainAt_2 : decode bX2_strainAt 2 = .ok (.iload_n 1, 1) := by decide +kernel
theorem dX2_strainAt_3 : decode bX2_strainAt 3 = .ok (.iload_n 2, 1) := by decide +kernel
theorem dX2_strainAt_4 : decode bX2_strainAt 4 = .ok (.invokevirtual 116, 3) := by decide +kernel
theorem dX2_strainAt_7 : decode bX2_strainAt 7 = .ok (.ireturn, 1) := by decide +kernel
theorem dX2_skinFall_0 : decode bX2_skinFall 0 = .ok (.aload_n 0, 1) := by decide +kernel
theorem dX2_skinFall_1 : decode bX2_skinFall 1 = .ok (.iload_n 1, 1) := by decide +kernel
theorem dX2_skinFall_2 : decode bX2_skinFall 2 = .ok (.iload_n 2, 1) := by decide +kernel
theorem dX2_skinFall_3 : decode bX2_skinFall 3 = .ok (.invokevirtual 119, 3) := by decide +kernel
theorem dX2_skinFall_6 : decode bX2_skinFall 6 = .ok (.aload_n 0, 1) := by decide +kernel
theorem dX2_skinFall_7 : decode bX2_skinFall 7 = .ok (.iload_n 1, 1) := by decide +kernel
theorem dX2_skinFall_8 : decode bX2_skinFall 8 = .ok (.iload_n 2, 1) := by decide +kernel
theorem dX2_skinFall_9 : decode bX2_skinFall 9 = .ok (.iconst 1, 1) := by decide +kernel
theorem dX2_skinFall_10 : decode bX2_skinFall 10 = .ok (.iadd, 1) := by decide +kernel
theorem dX2_skinFall_11 : decode bX2_skinFall 11 = .ok (.invokevirtual 119, 3) := by decide +kernel
theorem dX2_skinFall_14 : decode bX2_skinFall 14 = .ok (.isub, 1) := by decide +kernel
theorem dX2_skinFall_15 : decode bX2_skinFall 15 = .ok (.ireturn, 1) := by decide +kernel
theorem dX2_peakStepOf_0 : decode bX2_peakStepOf 0 = .ok (.iconst 0, 1) := by decide +kernel
theorem dX2_peakStepOf_1 : decode bX2_peakStepOf 1 = .ok (.istore_n 2, 1) := by decide +kernel
theorem dX2_peakStepOf_2 : decode bX2_peakStepOf 2 = .ok (.iconst 1, 1) := by decide +kernel
theorem dX2_peakStepOf_3 : decode bX2_peakStepOf 3 = .ok (.istore_n 3, 1) := by decide +kernel
theorem dX2_peakStepOf_4 : decode bX2_peakStepOf 4 = .ok (.iload_n 3, 1) := by decide +kernel
theorem dX2_peakStepOf_5 : decode bX2_peakStepOf 5 = .ok (.aload_n 0, 1) := by decide +kernel
theorem dX2_peakStepOf_6 : decode bX2_peakStepOf 6 = .ok (.getfield 43, 3) := by decide +kernel
theorem dX2_peakStepOf_9 : decode bX2_peakStepOf 9 = .ok (.getfield 122, 3) := by decide +kernel
theorem dX2_peakStepOf_12 : decode bX2_peakStepOf 12 = .ok (.if_icmp .gt 26, 3) := by decide +kernel
theorem dX2_peakStepOf_15 : decode bX2_peakStepOf 15 = .ok (.aload_n 0, 1) := by decide +kernel
theorem dX2_peakStepOf_16 : decode bX2_peakStepOf 16 = .ok (.iload_n 1, 1) := by decide +kernel
theorem dX2_peakStepOf_17 : decode bX2_peakStepOf 17 = .ok (.iload_n 3, 1) := by decide +kernel
theorem dX2_peakStepOf_18 : decode bX2_peakStepOf 18 = .ok (.invokevirtual 125, 3) := by decide +kernel
theorem dX2_peakStepOf_21 : decode bX2_peakStepOf 21 = .ok (.aload_n 0, 1) := by decide +kernel
theorem dX2_peakStepOf_22 : decode bX2_peakStepOf 22 = .ok (.iload_n 1, 1) := by decide +kernel
theorem dX2_peakStepOf_23 : decode bX2_peakStepOf 23 = .ok (.iload_n 2, 1) := by decide +kernel
theorem dX2_peakStepOf_24 : decode bX2_peakStepOf 24 = .ok (.invokevirtual 125, 3) := by decide +kernel
theorem dX2_peakStepOf_27 : decode bX2_peakStepOf 27 = .ok (.if_icmp .le 5, 3) := by decide +kernel
theorem dX2_peakStepOf_30 : decode bX2_peakStepOf 30 = .ok (.iload_n 3, 1) := by decide +kernel
theorem dX2_peakStepOf_31 : decode bX2_peakStepOf 31 = .ok (.istore_n 2, 1) := by decide +kernel
theorem dX2_peakStepOf_32 : decode bX2_peakStepOf 32 = .ok (.iinc 3 1, 3) := by decide +kernel
theorem dX2_peakStepOf_35 : decode bX2_peakStepOf 35 = .ok (.goto (-31), 3) := by decide +kernel
theorem dX2_peakStepOf_38 : decode bX2_peakStepOf 38 = .ok (.iload_n 2, 1) := by decide +kernel
theorem dX2_peakStepOf_39 : decode bX2_peakStepOf 39 = .ok (.ireturn, 1) := by decide +kernel
theorem dX2_peakOf_0 : decode bX2_peakOf 0 = .ok (.aload_n 0, 1) := by decide +kernel
theorem dX2_peakOf_1 : decode bX2_peakOf 1 = .ok (.iload_n 1, 1) := by decide +kernel
theorem dX2_peakOf_2 : decode bX2_peakOf 2 = .ok (.aload_n 0, 1) := by decide +kernel
theorem dX2_peakOf_3 : decode bX2_peakOf 3 = .ok (.iload_n 1, 1) := by decide +kernel
theorem dX2_peakOf_4 : decode bX2_peakOf 4 = .ok (.invokevirtual 128, 3) := by decide +kernel
theorem dX2_peakOf_7 : decode bX2_peakOf 7 = .ok (.invokevirtual 125, 3) := by decide +kernel
theorem dX2_peakOf_10 : decode bX2_peakOf 10 = .ok (.ireturn, 1) := by decide +kernel
theorem dX2_uncrackedAt_0 : decode bX2_uncrackedAt 0 = .ok (.iconst 0, 1) := by decide +kernel
theorem dX2_uncrackedAt_1 : decode bX2_uncrackedAt 1 = .ok (.istore_n 2, 1) := by decide +kernel
theorem dX2_uncrackedAt_2 : decode bX2_uncrackedAt 2 = .ok (.iconst 0, 1) := by decide +kernel
theorem dX2_uncrackedAt_3 : decode bX2_uncrackedAt 3 = .ok (.istore_n 3, 1) := by decide +kernel
theorem dX2_uncrackedAt_4 : decode bX2_uncrackedAt 4 = .ok (.iload_n 3, 1) := by decide +kernel
theorem dX2_uncrackedAt_5 : decode bX2_uncrackedAt 5 = .ok (.aload_n 0, 1) := by decide +kernel
theorem dX2_uncrackedAt_6 : decode bX2_uncrackedAt 6 = .ok (.getfield 43, 3) := by decide +kernel
theorem dX2_uncrackedAt_9 : decode bX2_uncrackedAt 9 = .ok (.getfield 66, 3) := by decide +kernel
theorem dX2_uncrackedAt_12 : decode bX2_uncrackedAt 12 = .ok (.if_icmp .ge 35, 3) := by decide +kernel
theorem dX2_uncrackedAt_15 : decode bX2_uncrackedAt 15 = .ok (.aload_n 0, 1) := by decide +kernel
theorem dX2_uncrackedAt_16 : decode bX2_uncrackedAt 16 = .ok (.getfield 21, 3) := by decide +kernel
theorem dX2_uncrackedAt_19 : decode bX2_uncrackedAt 19 = .ok (.iload_n 3, 1) := by decide +kernel
theorem dX2_uncrackedAt_20 : decode bX2_uncrackedAt 20 = .ok (.iaload, 1) := by decide +kernel
theorem dX2_uncrackedAt_21 : decode bX2_uncrackedAt 21 = .ok (.iconst (-1), 1) := by decide +kernel
theorem dX2_uncrackedAt_22 : decode bX2_uncrackedAt 22 = .ok (.if_icmp .eq 13, 3) := by decide +kernel
theorem dX2_uncrackedAt_25 : decode bX2_uncrackedAt 25 = .ok (.aload_n 0, 1) := by decide +kernel
theorem dX2_uncrackedAt_26 : decode bX2_uncrackedAt 26 = .ok (.getfield 21, 3) := by decide +kernel
theorem dX2_uncrackedAt_29 : decode bX2_uncrackedAt 29 = .ok (.iload_n 3, 1) := by decide +kernel
theorem dX2_uncrackedAt_30 : decode bX2_uncrackedAt 30 = .ok (.iaload, 1) := by decide +kernel
theorem dX2_uncrackedAt_31 : decode bX2_uncrackedAt 31 = .ok (.iload_n 1, 1) := by decide +kernel
theorem dX2_uncrackedAt_32 : decode bX2_uncrackedAt 32 = .ok (.if_icmp .le 9, 3) := by decide +kernel
theorem dX2_uncrackedAt_35 : decode bX2_uncrackedAt 35 = .ok (.iload_n 2, 1) := by decide +kernel
theorem dX2_uncrackedAt_36 : decode bX2_uncrackedAt 36 = .ok (.iconst 1, 1) := by decide +kernel
theorem dX2_uncrackedAt_37 : decode bX2_uncrackedAt 37 = .ok (.iload_n 3, 1) := by decide +kernel
theorem dX2_uncrackedAt_38 : decode bX2_uncrackedAt 38 = .ok (.ishl, 1) := by decide +kernel
theorem dX2_uncrackedAt_39 : decode bX2_uncrackedAt 39 = .ok (.ior, 1) := by decide +kernel
theorem dX2_uncrackedAt_40 : decode bX2_uncrackedAt 40 = .ok (.istore_n 2, 1) := by decide +kernel
theorem dX2_uncrackedAt_41 : decode bX2_uncrackedAt 41 = .ok (.iinc 3 1, 3) := by decide +kernel
theorem dX2_uncrackedAt_44 : decode bX2_uncrackedAt 44 = .ok (.goto (-40), 3) := by decide +kernel
theorem dX2_uncrackedAt_47 : decode bX2_uncrackedAt 47 = .ok (.iload_n 2, 1) := by decide +kernel
theorem dX2_uncrackedAt_48 : decode bX2_uncrackedAt 48 = .ok (.ireturn, 1) := by decide +kernel
theorem dX2_neverCracked_0 : decode bX2_neverCracked 0 = .ok (.aload_n 0, 1) := by decide +kernel
theorem dX2_neverCracked_1 : decode bX2_neverCracked 1 = .ok (.bipush 14, 2) := by decide +kernel
theorem dX2_neverCracked_3 : decode bX2_neverCracked 3 = .ok (.invokevirtual 131, 3) := by decide +kernel
theorem dX2_neverCracked_6 : decode bX2_neverCracked 6 = .ok (.ireturn, 1) := by decide +kernel
theorem dX2_crackingAt_0 : decode bX2_crackingAt 0 = .ok (.aload_n 0, 1) := by decide +kernel
theorem dX2_crackingAt_1 : decode bX2_crackingAt 1 = .ok (.iload_n 1, 1) := by decide +kernel
theorem dX2_crackingAt_2 : decode bX2_crackingAt 2 = .ok (.iconst 1, 1) := by decide +kernel
theorem dX2_crackingAt_3 : decode bX2_crackingAt 3 = .ok (.isub, 1) := by decide +kernel
theorem dX2_crackingAt_4 : decode bX2_crackingAt 4 = .ok (.invokevirtual 131, 3) := by decide +kernel
theorem dX2_crackingAt_7 : decode bX2_crackingAt 7 = .ok (.aload_n 0, 1) := by decide +kernel
theorem dX2_crackingAt_8 : decode bX2_crackingAt 8 = .ok (.iload_n 1, 1) := by decide +kernel
theorem dX2_crackingAt_9 : decode bX2_crackingAt 9 = .ok (.invokevirtual 131, 3) := by decide +kernel
theorem dX2_crackingAt_12 : decode bX2_crackingAt 12 = .ok (.iconst (-1), 1) := by decide +kernel
theorem dX2_crackingAt_13 : decode bX2_crackingAt 13 = .ok (.ixor, 1) := by decide +kernel
theorem dX2_crackingAt_14 : decode bX2_crackingAt 14 = .ok (.iand, 1) := by decide +kernel
theorem dX2_crackingAt_15 : decode bX2_crackingAt 15 = .ok (.ireturn, 1) := by decide +kernel
theorem dX2_mostOf_0 : decode bX2_mostOf 0 = .ok (.iconst (-1), 1) := by decide +kernel
theorem dX2_mostOf_1 : decode bX2_mostOf 1 = .ok (.istore_n 3, 1) := by decide +kernel
theorem dX2_mostOf_2 : decode bX2_mostOf 2 = .ok (.iconst 0, 1) := by decide +kernel
theorem dX2_mostOf_3 : decode bX2_mostOf 3 = .ok (.istore 4, 2) := by decide +kernel
theorem dX2_mostOf_5 : decode bX2_mostOf 5 = .ok (.iload 4, 2) := by decide +kernel
theorem dX2_mostOf_7 : decode bX2_mostOf 7 = .ok (.aload_n 0, 1) := by decide +kernel
theorem dX2_mostOf_8 : decode bX2_mostOf 8 = .ok (.getfield 43, 3) := by decide +kernel
theorem dX2_mostOf_11 : decode bX2_mostOf 11 = .ok (.getfield 66, 3) := by decide +kernel
theorem dX2_mostOf_14 : decode bX2_mostOf 14 = .ok (.if_icmp .ge 48, 3) := by decide +kernel
theorem dX2_mostOf_17 : decode bX2_mostOf 17 = .ok (.aload_n 0, 1) := by decide +kernel
theorem dX2_mostOf_18 : decode bX2_mostOf 18 = .ok (.getfield 43, 3) := by decide +kernel
theorem dX2_mostOf_21 : decode bX2_mostOf 21 = .ok (.iload 4, 2) := by decide +kernel
theorem dX2_mostOf_23 : decode bX2_mostOf 23 = .ok (.iload_n 2, 1) := by decide +kernel
theorem dX2_mostOf_24 : decode bX2_mostOf 24 = .ok (.invokevirtual 134, 3) := by decide +kernel
theorem dX2_mostOf_27 : decode bX2_mostOf 27 = .ok (.ifCond .eq 29, 3) := by decide +kernel
theorem dX2_mostOf_30 : decode bX2_mostOf 30 = .ok (.iload_n 3, 1) := by decide +kernel
theorem dX2_mostOf_31 : decode bX2_mostOf 31 = .ok (.iconst (-1), 1) := by decide +kernel
theorem dX2_mostOf_32 : decode bX2_mostOf 32 = .ok (.if_icmp .eq 21, 3) := by decide +kernel
theorem dX2_mostOf_35 : decode bX2_mostOf 35 = .ok (.aload_n 0, 1) := by decide +kernel
theorem dX2_mostOf_36 : decode bX2_mostOf 36 = .ok (.iload_n 1, 1) := by decide +kernel
theorem dX2_mostOf_37 : decode bX2_mostOf 37 = .ok (.iload 4, 2) := by decide +kernel
theorem dX2_mostOf_39 : decode bX2_mostOf 39 = .ok (.iload_n 2, 1) := by decide +kernel
theorem dX2_mostOf_40 : decode bX2_mostOf 40 = .ok (.invokevirtual 116, 3) := by decide +kernel
theorem dX2_mostOf_43 : decode bX2_mostOf 43 = .ok (.aload_n 0, 1) := by decide +kernel
theorem dX2_mostOf_44 : decode bX2_mostOf 44 = .ok (.iload_n 1, 1) := by decide +kernel
theorem dX2_mostOf_45 : decode bX2_mostOf 45 = .ok (.iload_n 3, 1) := by decide +kernel
theorem dX2_mostOf_46 : decode bX2_mostOf 46 = .ok (.iload_n 2, 1) := by decide +kernel
theorem dX2_mostOf_47 : decode bX2_mostOf 47 = .ok (.invokevirtual 116, 3) := by decide +kernel
theorem dX2_mostOf_50 : decode bX2_mostOf 50 = .ok (.if_icmp .le 6, 3) := by decide +kernel
theorem dX2_mostOf_53 : decode bX2_mostOf 53 = .ok (.iload 4, 2) := by decide +kernel
theorem dX2_mostOf_55 : decode bX2_mostOf 55 = .ok (.istore_n 3, 1) := by decide +kernel
theorem dX2_mostOf_56 : decode bX2_mostOf 56 = .ok (.iinc 4 1, 3) := by decide +kernel
theorem dX2_mostOf_59 : decode bX2_mostOf 59 = .ok (.goto (-54), 3) := by decide +kernel
theorem dX2_mostOf_62 : decode bX2_mostOf 62 = .ok (.iload_n 3, 1) := by decide +kernel
theorem dX2_mostOf_63 : decode bX2_mostOf 63 = .ok (.ireturn, 1) := by decide +kernel
theorem dX2_skinsTogether_0 : decode bX2_skinsTogether 0 = .ok (.iconst 0, 1) := by decide +kernel
theorem dX2_skinsTogether_1 : decode bX2_skinsTogether 1 = .ok (.istore_n 2, 1) := by decide +kernel
theorem dX2_skinsTogether_2 : decode bX2_skinsTogether 2 = .ok (.iconst 0, 1) := by decide +kernel
theorem dX2_skinsTogether_3 : decode bX2_skinsTogether 3 = .ok (.istore_n 3, 1) := by decide +kernel
theorem dX2_skinsTogether_4 : decode bX2_skinsTogether 4 = .ok (.iload_n 3, 1) := by decide +kernel
theorem dX2_skinsTogether_5 : decode bX2_skinsTogether 5 = .ok (.aload_n 0, 1) := by decide +kernel
theorem dX2_skinsTogether_6 : decode bX2_skinsTogether 6 = .ok (.getfield 43, 3) := by decide +kernel
theorem dX2_skinsTogether_9 : decode bX2_skinsTogether 9 = .ok (.getfield 66, 3) := by decide +kernel
theorem dX2_skinsTogether_12 : decode bX2_skinsTogether 12 = .ok (.if_icmp .ge 30, 3) := by decide +kernel
theorem dX2_skinsTogether_15 : decode bX2_skinsTogether 15 = .ok (.aload_n 0, 1) := by decide +kernel
theorem dX2_skinsTogether_16 : decode bX2_skinsTogether 16 = .ok (.getfield 43, 3) := by decide +kernel
theorem dX2_skinsTogether_19 : decode bX2_skinsTogether 19 = .ok (.iload_n 3, 1) := by decide +kernel
theorem dX2_skinsTogether_20 : decode bX2_skinsTogether 20 = .ok (.iload_n 1, 1) := by decide +kernel
theorem dX2_skinsTogether_21 : decode bX2_skinsTogether 21 = .ok (.invokevirtual 134, 3) := by decide +kernel
theorem dX2_skinsTogether_24 : decode bX2_skinsTogether 24 = .ok (.ifCond .eq 12, 3) := by decide +kernel
theorem dX2_skinsTogether_27 : decode bX2_skinsTogether 27 = .ok (.iload_n 2, 1) := by decide +kernel
theorem dX2_skinsTogether_28 : decode bX2_skinsTogether 28 = .ok (.aload_n 0, 1) := by decide +kernel
theorem dX2_skinsTogether_29 : decode bX2_skinsTogether 29 = .ok (.iload_n 3, 1) := by decide +kernel
theorem dX2_skinsTogether_30 : decode bX2_skinsTogether 30 = .ok (.iload_n 1, 1) := by decide +kernel
theorem dX2_skinsTogether_31 : decode bX2_skinsTogether 31 = .ok (.invokevirtual 119, 3) := by decide +kernel
theorem dX2_skinsTogether_34 : decode bX2_skinsTogether 34 = .ok (.iadd, 1) := by decide +kernel
theorem dX2_skinsTogether_35 : decode bX2_skinsTogether 35 = .ok (.istore_n 2, 1) := by decide +kernel
theorem dX2_skinsTogether_36 : decode bX2_skinsTogether 36 = .ok (.iinc 3 1, 3) := by decide +kernel
theorem dX2_skinsTogether_39 : decode bX2_skinsTogether 39 = .ok (.goto (-35), 3) := by decide +kernel
theorem dX2_skinsTogether_42 : decode bX2_skinsTogether 42 = .ok (.iload_n 2, 1) := by decide +kernel
theorem dX2_skinsTogether_43 : decode bX2_skinsTogether 43 = .ok (.ireturn, 1) := by decide +kernel
theorem dX2_skinSpread_0 : decode bX2_skinSpread 0 = .ok (.aload_n 0, 1) := by decide +kernel
theorem dX2_skinSpread_1 : decode bX2_skinSpread 1 = .ok (.iconst 0, 1) := by decide +kernel
theorem dX2_skinSpread_2 : decode bX2_skinSpread 2 = .ok (.iload_n 1, 1) := by decide +kernel
theorem dX2_skinSpread_3 : decode bX2_skinSpread 3 = .ok (.invokevirtual 138, 3) := by decide +kernel
theorem dX2_skinSpread_6 : decode bX2_skinSpread 6 = .ok (.istore_n 2, 1) := by decide +kernel
theorem dX2_skinSpread_7 : decode bX2_skinSpread 7 = .ok (.iload_n 2, 1) := by decide +kernel
theorem dX2_skinSpread_8 : decode bX2_skinSpread 8 = .ok (.iconst (-1), 1) := by decide +kernel
theorem dX2_skinSpread_9 : decode bX2_skinSpread 9 = .ok (.if_icmp .ne 5, 3) := by decide +kernel
theorem dX2_skinSpread_12 : decode bX2_skinSpread 12 = .ok (.iconst 0, 1) := by decide +kernel
theorem dX2_skinSpread_13 : decode bX2_skinSpread 13 = .ok (.ireturn, 1) := by decide +kernel
theorem dX2_skinSpread_14 : decode bX2_skinSpread 14 = .ok (.iconst 0, 1) := by decide +kernel
theorem dX2_skinSpread_15 : decode bX2_skinSpread 15 = .ok (.istore_n 3, 1) := by decide +kernel
theorem dX2_skinSpread_16 : decode bX2_skinSpread 16 = .ok (.iconst 0, 1) := by decide +kernel
theorem dX2_skinSpread_17 : decode bX2_skinSpread 17 = .ok (.istore 4, 2) := by decide +kernel
theorem dX2_skinSpread_19 : decode bX2_skinSpread 19 = .ok (.iload 4, 2) := by decide +kernel
theorem dX2_skinSpread_21 : decode bX2_skinSpread 21 = .ok (.aload_n 0, 1) := by decide +kernel
theorem dX2_skinSpread_22 : decode bX2_skinSpread 22 = .ok (.getfield 43, 3) := by decide +kernel
theorem dX2_skinSpread_25 : decode bX2_skinSpread 25 = .ok (.getfield 66, 3) := by decide +kernel
theorem dX2_skinSpread_28 : decode bX2_skinSpread 28 = .ok (.if_icmp .ge 41, 3) := by decide +kernel
theorem dX2_skinSpread_31 : decode bX2_skinSpread 31 = .ok (.aload_n 0, 1) := by decide +kernel
theorem dX2_skinSpread_32 : decode bX2_skinSpread 32 = .ok (.getfield 43, 3) := by decide +kernel
theorem dX2_skinSpread_35 : decode bX2_skinSpread 35 = .ok (.iload 4, 2) := by decide +kernel
theorem dX2_skinSpread_37 : decode bX2_skinSpread 37 = .ok (.iload_n 1, 1) := by decide +kernel
theorem dX2_skinSpread_38 : decode bX2_skinSpread 38 = .ok (.invokevirtual 134, 3) := by decide +kernel
theorem dX2_skinSpread_41 : decode bX2_skinSpread 41 = .ok (.ifCond .eq 22, 3) := by decide +kernel
theorem dX2_skinSpread_44 : decode bX2_skinSpread 44 = .ok (.iload_n 3, 1) := by decide +kernel
theorem dX2_skinSpread_45 : decode bX2_skinSpread 45 = .ok (.aload_n 0, 1) := by decide +kernel
theorem dX2_skinSpread_46 : decode bX2_skinSpread 46 = .ok (.iload_n 2, 1) := by decide +kernel
theorem dX2_skinSpread_47 : decode bX2_skinSpread 47 = .ok (.iload_n 1, 1) := by decide +kernel
theorem dX2_skinSpread_48 : decode bX2_skinSpread 48 = .ok (.invokevirtual 119, 3) := by decide +kernel
theorem dX2_skinSpread_51 : decode bX2_skinSpread 51 = .ok (.aload_n 0, 1) := by decide +kernel
theorem dX2_skinSpread_52 : decode bX2_skinSpread 52 = .ok (.iload 4, 2) := by decide +kernel
theorem dX2_skinSpread_54 : decode bX2_skinSpread 54 = .ok (.iload_n 1, 1) := by decide +kernel
theorem dX2_skinSpread_55 : decode bX2_skinSpread 55 = .ok (.invokevirtual 119, 3) := by decide +kernel
theorem dX2_skinSpread_58 : decode bX2_skinSpread 58 = .ok (.isub, 1) := by decide +kernel
theorem dX2_skinSpread_59 : decode bX2_skinSpread 59 = .ok (.invokestatic 100, 3) := by decide +kernel
theorem dX2_skinSpread_62 : decode bX2_skinSpread 62 = .ok (.istore_n 3, 1) := by decide +kernel
theorem dX2_skinSpread_63 : decode bX2_skinSpread 63 = .ok (.iinc 4 1, 3) := by decide +kernel
theorem dX2_skinSpread_66 : decode bX2_skinSpread 66 = .ok (.goto (-47), 3) := by decide +kernel
theorem dX2_skinSpread_69 : decode bX2_skinSpread 69 = .ok (.iload_n 3, 1) := by decide +kernel
theorem dX2_skinSpread_70 : decode bX2_skinSpread 70 = .ok (.ireturn, 1) := by decide +kernel
theorem dX2_stiffAt_0 : decode bX2_stiffAt 0 = .ok (.iconst 0, 1) := by decide +kernel
theorem dX2_stiffAt_1 : decode bX2_stiffAt 1 = .ok (.istore_n 2, 1) := by decide +kernel
theorem dX2_stiffAt_2 : decode bX2_stiffAt 2 = .ok (.iconst 0, 1) := by decide +kernel
theorem dX2_stiffAt_3 : decode bX2_stiffAt 3 = .ok (.istore_n 3, 1) := by decide +kernel
theorem dX2_stiffAt_4 : decode bX2_stiffAt 4 = .ok (.iload_n 3, 1) := by decide +kernel
theorem dX2_stiffAt_5 : decode bX2_stiffAt 5 = .ok (.aload_n 0, 1) := by decide +kernel
theorem dX2_stiffAt_6 : decode bX2_stiffAt 6 = .ok (.getfield 43, 3) := by decide +kernel
theorem dX2_stiffAt_9 : decode bX2_stiffAt 9 = .ok (.getfield 66, 3) := by decide +kernel
theorem dX2_stiffAt_12 : decode bX2_stiffAt 12 = .ok (.if_icmp .ge 44, 3) := by decide +kernel
theorem dX2_stiffAt_15 : decode bX2_stiffAt 15 = .ok (.aload_n 0, 1) := by decide +kernel
theorem dX2_stiffAt_16 : decode bX2_stiffAt 16 = .ok (.getfield 43, 3) := by decide +kernel
theorem dX2_stiffAt_19 : decode bX2_stiffAt 19 = .ok (.iload_n 3, 1) := by decide +kernel
theorem dX2_stiffAt_20 : decode bX2_stiffAt 20 = .ok (.iload_n 1, 1) := by decide +kernel
theorem dX2_stiffAt_21 : decode bX2_stiffAt 21 = .ok (.invokevirtual 134, 3) := by decide +kernel
theorem dX2_stiffAt_24 : decode bX2_stiffAt 24 = .ok (.ifCond .eq 26, 3) := by decide +kernel
theorem dX2_stiffAt_27 : decode bX2_stiffAt 27 = .ok (.aload_n 0, 1) := by decide +kernel
theorem dX2_stiffAt_28 : decode bX2_stiffAt 28 = .ok (.iconst 1, 1) := by decide +kernel
theorem dX2_stiffAt_29 : decode bX2_stiffAt 29 = .ok (.iload_n 3, 1) := by decide +kernel
theorem dX2_stiffAt_30 : decode bX2_stiffAt 30 = .ok (.iload_n 1, 1) := by decide +kernel
theorem dX2_stiffAt_31 : decode bX2_stiffAt 31 = .ok (.invokevirtual 116, 3) := by decide +kernel
theorem dX2_stiffAt_34 : decode bX2_stiffAt 34 = .ok (.aload_n 0, 1) := by decide +kernel
theorem dX2_stiffAt_35 : decode bX2_stiffAt 35 = .ok (.getfield 43, 3) := by decide +kernel
theorem dX2_stiffAt_38 : decode bX2_stiffAt 38 = .ok (.getfield 106, 3) := by decide +kernel
theorem dX2_stiffAt_41 : decode bX2_stiffAt 41 = .ok (.if_icmp .ge 9, 3) := by decide +kernel
theorem dX2_stiffAt_44 : decode bX2_stiffAt 44 = .ok (.iload_n 2, 1) := by decide +kernel
theorem dX2_stiffAt_45 : decode bX2_stiffAt 45 = .ok (.iconst 1, 1) := by decide +kernel
theorem dX2_stiffAt_46 : decode bX2_stiffAt 46 = .ok (.iload_n 3, 1) := by decide +kernel
theorem dX2_stiffAt_47 : decode bX2_stiffAt 47 = .ok (.ishl, 1) := by decide +kernel
theorem dX2_stiffAt_48 : decode bX2_stiffAt 48 = .ok (.ior, 1) := by decide +kernel
theorem dX2_stiffAt_49 : decode bX2_stiffAt 49 = .ok (.istore_n 2, 1) := by decide +kernel
theorem dX2_stiffAt_50 : decode bX2_stiffAt 50 = .ok (.iinc 3 1, 3) := by decide +kernel
theorem dX2_stiffAt_53 : decode bX2_stiffAt 53 = .ok (.goto (-49), 3) := by decide +kernel
theorem dX2_stiffAt_56 : decode bX2_stiffAt 56 = .ok (.iload_n 2, 1) := by decide +kernel
theorem dX2_stiffAt_57 : decode bX2_stiffAt 57 = .ok (.ireturn, 1) := by decide +kernel
theorem dX2_worstStep_0 : decode bX2_worstStep 0 = .ok (.iconst (-1), 1) := by decide +kernel
theorem dX2_worstStep_1 : decode bX2_worstStep 1 = .ok (.istore_n 1, 1) := by decide +kernel
theorem dX2_worstStep_2 : decode bX2_worstStep 2 = .ok (.iconst 0, 1) := by decide +kernel
theorem dX2_worstStep_3 : decode bX2_worstStep 3 = .ok (.istore_n 2, 1) := by decide +kernel
theorem dX2_worstStep_4 : decode bX2_worstStep 4 = .ok (.iconst 0, 1) := by decide +kernel
theorem dX2_worstStep_5 : decode bX2_worstStep 5 = .ok (.istore_n 3, 1) := by decide +kernel
theorem dX2_worstStep_6 : decode bX2_worstStep 6 = .ok (.iload_n 3, 1) := by decide +kernel
theorem dX2_worstStep_7 : decode bX2_worstStep 7 = .ok (.aload_n 0, 1) := by decide +kernel
theorem dX2_worstStep_8 : decode bX2_worstStep 8 = .ok (.getfield 43, 3) := by decide +kernel
theorem dX2_worstStep_11 : decode bX2_worstStep 11 = .ok (.getfield 122, 3) := by decide +kernel
theorem dX2_worstStep_14 : decode bX2_worstStep 14 = .ok (.if_icmp .gt 30, 3) := by decide +kernel
theorem dX2_worstStep_17 : decode bX2_worstStep 17 = .ok (.aload_n 0, 1) := by decide +kernel
theorem dX2_worstStep_18 : decode bX2_worstStep 18 = .ok (.iload_n 3, 1) := by decide +kernel
theorem dX2_worstStep_19 : decode bX2_worstStep 19 = .ok (.invokevirtual 141, 3) := by decide +kernel
theorem dX2_worstStep_22 : decode bX2_worstStep 22 = .ok (.invokestatic 144, 3) := by decide +kernel
theorem dX2_worstStep_25 : decode bX2_worstStep 25 = .ok (.istore 4, 2) := by decide +kernel
theorem dX2_worstStep_27 : decode bX2_worstStep 27 = .ok (.iload 4, 2) := by decide +kernel
theorem dX2_worstStep_29 : decode bX2_worstStep 29 = .ok (.iload_n 2, 1) := by decide +kernel
theorem dX2_worstStep_30 : decode bX2_worstStep 30 = .ok (.if_icmp .le 8, 3) := by decide +kernel
theorem dX2_worstStep_33 : decode bX2_worstStep 33 = .ok (.iload 4, 2) := by decide +kernel
theorem dX2_worstStep_35 : decode bX2_worstStep 35 = .ok (.istore_n 2, 1) := by decide +kernel
theorem dX2_worstStep_36 : decode bX2_worstStep 36 = .ok (.iload_n 3, 1) := by decide +kernel
theorem dX2_worstStep_37 : decode bX2_worstStep 37 = .ok (.istore_n 1, 1) := by decide +kernel
theorem dX2_worstStep_38 : decode bX2_worstStep 38 = .ok (.iinc 3 1, 3) := by decide +kernel
theorem dX2_worstStep_41 : decode bX2_worstStep 41 = .ok (.goto (-35), 3) := by decide +kernel
theorem dX2_worstStep_44 : decode bX2_worstStep 44 = .ok (.iload_n 1, 1) := by decide +kernel
theorem dX2_worstStep_45 : decode bX2_worstStep 45 = .ok (.ireturn, 1) := by decide +kernel
theorem dX2_sorestZone_0 : decode bX2_sorestZone 0 = .ok (.iconst (-1), 1) := by decide +kernel
theorem dX2_sorestZone_1 : decode bX2_sorestZone 1 = .ok (.istore_n 1, 1) := by decide +kernel
theorem dX2_sorestZone_2 : decode bX2_sorestZone 2 = .ok (.iconst 0, 1) := by decide +kernel
theorem dX2_sorestZone_3 : decode bX2_sorestZone 3 = .ok (.istore_n 2, 1) := by decide +kernel
theorem dX2_sorestZone_4 : decode bX2_sorestZone 4 = .ok (.iconst 0, 1) := by decide +kernel
theorem dX2_sorestZone_5 : decode bX2_sorestZone 5 = .ok (.istore_n 3, 1) := by decide +kernel
theorem dX2_sorestZone_6 : decode bX2_sorestZone 6 = .ok (.iload_n 3, 1) := by decide +kernel
theorem dX2_sorestZone_7 : decode bX2_sorestZone 7 = .ok (.aload_n 0, 1) := by decide +kernel
theorem dX2_sorestZone_8 : decode bX2_sorestZone 8 = .ok (.getfield 43, 3) := by decide +kernel
theorem dX2_sorestZone_11 : decode bX2_sorestZone 11 = .ok (.getfield 149, 3) := by decide +kernel
theorem dX2_sorestZone_14 : decode bX2_sorestZone 14 = .ok (.if_icmp .ge 27, 3) := by decide +kernel
theorem dX2_sorestZone_17 : decode bX2_sorestZone 17 = .ok (.aload_n 0, 1) := by decide +kernel
theorem dX2_sorestZone_18 : decode bX2_sorestZone 18 = .ok (.iload_n 3, 1) := by decide +kernel
theorem dX2_sorestZone_19 : decode bX2_sorestZone 19 = .ok (.invokevirtual 152, 3) := by decide +kernel
theorem dX2_sorestZone_22 : decode bX2_sorestZone 22 = .ok (.istore 4, 2) := by decide +kernel
theorem dX2_sorestZone_24 : decode bX2_sorestZone 24 = .ok (.iload 4, 2) := by decide +kernel
theorem dX2_sorestZone_26 : decode bX2_sorestZone 26 = .ok (.iload_n 2, 1) := by decide +kernel
theorem dX2_sorestZone_27 : decode bX2_sorestZone 27 = .ok (.if_icmp .le 8, 3) := by decide +kernel
theorem dX2_sorestZone_30 : decode bX2_sorestZone 30 = .ok (.iload 4, 2) := by decide +kernel
theorem dX2_sorestZone_32 : decode bX2_sorestZone 32 = .ok (.istore_n 2, 1) := by decide +kernel
theorem dX2_sorestZone_33 : decode bX2_sorestZone 33 = .ok (.iload_n 3, 1) := by decide +kernel
theorem dX2_sorestZone_34 : decode bX2_sorestZone 34 = .ok (.istore_n 1, 1) := by decide +kernel
theorem dX2_sorestZone_35 : decode bX2_sorestZone 35 = .ok (.iinc 3 1, 3) := by decide +kernel
theorem dX2_sorestZone_38 : decode bX2_sorestZone 38 = .ok (.goto (-32), 3) := by decide +kernel
theorem dX2_sorestZone_41 : decode bX2_sorestZone 41 = .ok (.iload_n 1, 1) := by decide +kernel
theorem dX2_sorestZone_42 : decode bX2_sorestZone 42 = .ok (.ireturn, 1) := by decide +kernel
theorem dX2_crackingIn_0 : decode bX2_crackingIn 0 = .ok (.iconst 0, 1) := by decide +kernel
theorem dX2_crackingIn_1 : decode bX2_crackingIn 1 = .ok (.istore_n 2, 1) := by decide +kernel
theorem dX2_crackingIn_2 : decode bX2_crackingIn 2 = .ok (.iconst 0, 1) := by decide +kernel
theorem dX2_crackingIn_3 : decode bX2_crackingIn 3 = .ok (.istore_n 3, 1) := by decide +kernel
theorem dX2_crackingIn_4 : decode bX2_crackingIn 4 = .ok (.iload_n 3, 1) := by decide +kernel
theorem dX2_crackingIn_5 : decode bX2_crackingIn 5 = .ok (.aload_n 0, 1) := by decide +kernel
theorem dX2_crackingIn_6 : decode bX2_crackingIn 6 = .ok (.getfield 43, 3) := by decide +kernel
theorem dX2_crackingIn_9 : decode bX2_crackingIn 9 = .ok (.getfield 66, 3) := by decide +kernel
theorem dX2_crackingIn_12 : decode bX2_crackingIn 12 = .ok (.if_icmp .ge 40, 3) := by decide +kernel
theorem dX2_crackingIn_15 : decode bX2_crackingIn 15 = .ok (.aload_n 0, 1) := by decide +kernel
theorem dX2_crackingIn_16 : decode bX2_crackingIn 16 = .ok (.getfield 21, 3) := by decide +kernel
theorem dX2_crackingIn_19 : decode bX2_crackingIn 19 = .ok (.iload_n 3, 1) := by decide +kernel
theorem dX2_crackingIn_20 : decode bX2_crackingIn 20 = .ok (.iaload, 1) := by decide +kernel
theorem dX2_crackingIn_21 : decode bX2_crackingIn 21 = .ok (.iconst (-1), 1) := by decide +kernel
theorem dX2_crackingIn_22 : decode bX2_crackingIn 22 = .ok (.if_icmp .eq 24, 3) := by decide +kernel
theorem dX2_crackingIn_25 : decode bX2_crackingIn 25 = .ok (.aload_n 0, 1) := by decide +kernel
theorem dX2_crackingIn_26 : decode bX2_crackingIn 26 = .ok (.getfield 43, 3) := by decide +kernel
theorem dX2_crackingIn_29 : decode bX2_crackingIn 29 = .ok (.iload_n 3, 1) := by decide +kernel
theorem dX2_crackingIn_30 : decode bX2_crackingIn 30 = .ok (.aload_n 0, 1) := by decide +kernel
theorem dX2_crackingIn_31 : decode bX2_crackingIn 31 = .ok (.getfield 21, 3) := by decide +kernel
theorem dX2_crackingIn_34 : decode bX2_crackingIn 34 = .ok (.iload_n 3, 1) := by decide +kernel
theorem dX2_crackingIn_35 : decode bX2_crackingIn 35 = .ok (.iaload, 1) := by decide +kernel
theorem dX2_crackingIn_36 : decode bX2_crackingIn 36 = .ok (.invokevirtual 79, 3) := by decide +kernel
theorem dX2_crackingIn_39 : decode bX2_crackingIn 39 = .ok (.iload_n 1, 1) := by decide +kernel
theorem dX2_crackingIn_40 : decode bX2_crackingIn 40 = .ok (.if_icmp .ne 6, 3) := by decide +kernel
theorem dX2_crackingIn_43 : decode bX2_crackingIn 43 = .ok (.iinc 2 1, 3) := by decide +kernel
theorem dX2_crackingIn_46 : decode bX2_crackingIn 46 = .ok (.iinc 3 1, 3) := by decide +kernel
theorem dX2_crackingIn_49 : decode bX2_crackingIn 49 = .ok (.goto (-45), 3) := by decide +kernel
theorem dX2_crackingIn_52 : decode bX2_crackingIn 52 = .ok (.iload_n 2, 1) := by decide +kernel
theorem dX2_crackingIn_53 : decode bX2_crackingIn 53 = .ok (.ireturn, 1) := by decide +kernel
theorem dX2_countOfReason_0 : decode bX2_countOfReason 0 = .ok (.iconst 0, 1) := by decide +kernel
theorem dX2_countOfReason_1 : decode bX2_countOfReason 1 = .ok (.istore_n 2, 1) := by decide +kernel
theorem dX2_countOfReason_2 : decode bX2_countOfReason 2 = .ok (.iconst 0, 1) := by decide +kernel
theorem dX2_countOfReason_3 : decode bX2_countOfReason 3 = .ok (.istore_n 3, 1) := by decide +kernel
theorem dX2_countOfReason_4 : decode bX2_countOfReason 4 = .ok (.iload_n 3, 1) := by decide +kernel
theorem dX2_countOfReason_5 : decode bX2_countOfReason 5 = .ok (.aload_n 0, 1) := by decide +kernel
theorem dX2_countOfReason_6 : decode bX2_countOfReason 6 = .ok (.getfield 43, 3) := by decide +kernel
theorem dX2_countOfReason_9 : decode bX2_countOfReason 9 = .ok (.getfield 66, 3) := by decide +kernel
theorem dX2_countOfReason_12 : decode bX2_countOfReason 12 = .ok (.if_icmp .ge 22, 3) := by decide +kernel
theorem dX2_countOfReason_15 : decode bX2_countOfReason 15 = .ok (.aload_n 0, 1) := by decide +kernel
theorem dX2_countOfReason_16 : decode bX2_countOfReason 16 = .ok (.getfield 24, 3) := by decide +kernel
theorem dX2_countOfReason_19 : decode bX2_countOfReason 19 = .ok (.iload_n 3, 1) := by decide +kernel
theorem dX2_countOfReason_20 : decode bX2_countOfReason 20 = .ok (.iaload, 1) := by decide +kernel
theorem dX2_countOfReason_21 : decode bX2_countOfReason 21 = .ok (.iload_n 1, 1) := by decide +kernel
theorem dX2_countOfReason_22 : decode bX2_countOfReason 22 = .ok (.if_icmp .ne 6, 3) := by decide +kernel
theorem dX2_countOfReason_25 : decode bX2_countOfReason 25 = .ok (.iinc 2 1, 3) := by decide +kernel
theorem dX2_countOfReason_28 : decode bX2_countOfReason 28 = .ok (.iinc 3 1, 3) := by decide +kernel
theorem dX2_countOfReason_31 : decode bX2_countOfReason 31 = .ok (.goto (-27), 3) := by decide +kernel
theorem dX2_countOfReason_34 : decode bX2_countOfReason 34 = .ok (.iload_n 2, 1) := by decide +kernel
theorem dX2_countOfReason_35 : decode bX2_countOfReason 35 = .ok (.ireturn, 1) := by decide +kernel
theorem dX2_tenseSteps_0 : decode bX2_tenseSteps 0 = .ok (.iconst 0, 1) := by decide +kernel
theorem dX2_tenseSteps_1 : decode bX2_tenseSteps 1 = .ok (.istore_n 2, 1) := by decide +kernel
theorem dX2_tenseSteps_2 : decode bX2_tenseSteps 2 = .ok (.iconst 0, 1) := by decide +kernel
theorem dX2_tenseSteps_3 : decode bX2_tenseSteps 3 = .ok (.istore_n 3, 1) := by decide +kernel
theorem dX2_tenseSteps_4 : decode bX2_tenseSteps 4 = .ok (.iload_n 3, 1) := by decide +kernel
theorem dX2_tenseSteps_5 : decode bX2_tenseSteps 5 = .ok (.aload_n 0, 1) := by decide +kernel
theorem dX2_tenseSteps_6 : decode bX2_tenseSteps 6 = .ok (.getfield 43, 3) := by decide +kernel
theorem dX2_tenseSteps_9 : decode bX2_tenseSteps 9 = .ok (.getfield 122, 3) := by decide +kernel
theorem dX2_tenseSteps_12 : decode bX2_tenseSteps 12 = .ok (.if_icmp .gt 40, 3) := by decide +kernel
theorem dX2_tenseSteps_15 : decode bX2_tenseSteps 15 = .ok (.aload_n 0, 1) := by decide +kernel
theorem dX2_tenseSteps_16 : decode bX2_tenseSteps 16 = .ok (.getfield 43, 3) := by decide +kernel
theorem dX2_tenseSteps_19 : decode bX2_tenseSteps 19 = .ok (.iload_n 1, 1) := by decide +kernel
theorem dX2_tenseSteps_20 : decode bX2_tenseSteps 20 = .ok (.iload_n 3, 1) := by decide +kernel
theorem dX2_tenseSteps_21 : decode bX2_tenseSteps 21 = .ok (.invokevirtual 134, 3) := by decide +kernel
theorem dX2_tenseSteps_24 : decode bX2_tenseSteps 24 = .ok (.ifCond .eq 22, 3) := by decide +kernel
theorem dX2_tenseSteps_27 : decode bX2_tenseSteps 27 = .ok (.aload_n 0, 1) := by decide +kernel
theorem dX2_tenseSteps_28 : decode bX2_tenseSteps 28 = .ok (.iload_n 1, 1) := by decide +kernel
theorem dX2_tenseSteps_29 : decode bX2_tenseSteps 29 = .ok (.iload_n 3, 1) := by decide +kernel
theorem dX2_tenseSteps_30 : decode bX2_tenseSteps 30 = .ok (.invokevirtual 119, 3) := by decide +kernel
theorem dX2_tenseSteps_33 : decode bX2_tenseSteps 33 = .ok (.aload_n 0, 1) := by decide +kernel
theorem dX2_tenseSteps_34 : decode bX2_tenseSteps 34 = .ok (.iconst 1, 1) := by decide +kernel
theorem dX2_tenseSteps_35 : decode bX2_tenseSteps 35 = .ok (.iload_n 1, 1) := by decide +kernel
theorem dX2_tenseSteps_36 : decode bX2_tenseSteps 36 = .ok (.iload_n 3, 1) := by decide +kernel
theorem dX2_tenseSteps_37 : decode bX2_tenseSteps 37 = .ok (.invokevirtual 116, 3) := by decide +kernel
theorem dX2_tenseSteps_40 : decode bX2_tenseSteps 40 = .ok (.if_icmp .ge 6, 3) := by decide +kernel
theorem dX2_tenseSteps_43 : decode bX2_tenseSteps 43 = .ok (.iinc 2 1, 3) := by decide +kernel
theorem dX2_tenseSteps_46 : decode bX2_tenseSteps 46 = .ok (.iinc 3 1, 3) := by decide +kernel
theorem dX2_tenseSteps_49 : decode bX2_tenseSteps 49 = .ok (.goto (-45), 3) := by decide +kernel
theorem dX2_tenseSteps_52 : decode bX2_tenseSteps 52 = .ok (.iload_n 2, 1) := by decide +kernel
theorem dX2_tenseSteps_53 : decode bX2_tenseSteps 53 = .ok (.ireturn, 1) := by decide +kernel
theorem dX2_warmingSteps_0 : decode bX2_warmingSteps 0 = .ok (.iconst 0, 1) := by decide +kernel
theorem dX2_warmingSteps_1 : decode bX2_warmingSteps 1 = .ok (.istore_n 2, 1) := by decide +kernel
theorem dX2_warmingSteps_2 : decode bX2_warmingSteps 2 = .ok (.iconst 0, 1) := by decide +kernel
theorem dX2_warmingSteps_3 : decode bX2_warmingSteps 3 = .ok (.istore_n 3, 1) := by decide +kernel
theorem dX2_warmingSteps_4 : decode bX2_warmingSteps 4 = .ok (.iload_n 3, 1) := by decide +kernel
theorem dX2_warmingSteps_5 : decode bX2_warmingSteps 5 = .ok (.aload_n 0, 1) := by decide +kernel
theorem dX2_warmingSteps_6 : decode bX2_warmingSteps 6 = .ok (.getfield 43, 3) := by decide +kernel
theorem dX2_warmingSteps_9 : decode bX2_warmingSteps 9 = .ok (.getfield 122, 3) := by decide +kernel
theorem dX2_warmingSteps_12 : decode bX2_warmingSteps 12 = .ok (.if_icmp .ge 21, 3) := by decide +kernel
theorem dX2_warmingSteps_15 : decode bX2_warmingSteps 15 = .ok (.aload_n 0, 1) := by decide +kernel
theorem dX2_warmingSteps_16 : decode bX2_warmingSteps 16 = .ok (.iload_n 1, 1) := by decide +kernel
theorem dX2_warmingSteps_17 : decode bX2_warmingSteps 17 = .ok (.iload_n 3, 1) := by decide +kernel
theorem dX2_warmingSteps_18 : decode bX2_warmingSteps 18 = .ok (.invokevirtual 155, 3) := by decide +kernel
theorem dX2_warmingSteps_21 : decode bX2_warmingSteps 21 = .ok (.ifCond .ge 6, 3) := by decide +kernel
theorem dX2_warmingSteps_24 : decode bX2_warmingSteps 24 = .ok (.iinc 2 1, 3) := by decide +kernel
theorem dX2_warmingSteps_27 : decode bX2_warmingSteps 27 = .ok (.iinc 3 1, 3) := by decide +kernel
theorem dX2_warmingSteps_30 : decode bX2_warmingSteps 30 = .ok (.goto (-26), 3) := by decide +kernel
theorem dX2_warmingSteps_33 : decode bX2_warmingSteps 33 = .ok (.iload_n 2, 1) := by decide +kernel
theorem dX2_warmingSteps_34 : decode bX2_warmingSteps 34 = .ok (.ireturn, 1) := by decide +kernel
theorem dX2_firstStepAtMost_0 : decode bX2_firstStepAtMost 0 = .ok (.iconst 0, 1) := by decide +kernel
theorem dX2_firstStepAtMost_1 : decode bX2_firstStepAtMost 1 = .ok (.istore_n 3, 1) := by decide +kernel
theorem dX2_firstStepAtMost_2 : decode bX2_firstStepAtMost 2 = .ok (.iload_n 3, 1) := by decide +kernel
theorem dX2_firstStepAtMost_3 : decode bX2_firstStepAtMost 3 = .ok (.aload_n 0, 1) := by decide +kernel
theorem dX2_firstStepAtMost_4 : decode bX2_firstStepAtMost 4 = .ok (.getfield 43, 3) := by decide +kernel
theorem dX2_firstStepAtMost_7 : decode bX2_firstStepAtMost 7 = .ok (.getfield 122, 3) := by decide +kernel
theorem dX2_firstStepAtMost_10 : decode bX2_firstStepAtMost 10 = .ok (.if_icmp .gt 33, 3) := by decide +kernel
theorem dX2_firstStepAtMost_13 : decode bX2_firstStepAtMost 13 = .ok (.aload_n 0, 1) := by decide +kernel
theorem dX2_firstStepAtMost_14 : decode bX2_firstStepAtMost 14 = .ok (.getfield 43, 3) := by decide +kernel
theorem dX2_firstStepAtMost_17 : decode bX2_firstStepAtMost 17 = .ok (.iload_n 1, 1) := by decide +kernel
theorem dX2_firstStepAtMost_18 : decode bX2_firstStepAtMost 18 = .ok (.iload_n 3, 1) := by decide +kernel
theorem dX2_firstStepAtMost_19 : decode bX2_firstStepAtMost 19 = .ok (.invokevirtual 134, 3) := by decide +kernel
theorem dX2_firstStepAtMost_22 : decode bX2_firstStepAtMost 22 = .ok (.ifCond .eq 15, 3) := by decide +kernel
theorem dX2_firstStepAtMost_25 : decode bX2_firstStepAtMost 25 = .ok (.aload_n 0, 1) := by decide +kernel
theorem dX2_firstStepAtMost_26 : decode bX2_firstStepAtMost 26 = .ok (.iload_n 1, 1) := by decide +kernel
theorem dX2_firstStepAtMost_27 : decode bX2_firstStepAtMost 27 = .ok (.iload_n 3, 1) := by decide +kernel
theorem dX2_firstStepAtMost_28 : decode bX2_firstStepAtMost 28 = .ok (.invokevirtual 119, 3) := by decide +kernel
theorem dX2_firstStepAtMost_31 : decode bX2_firstStepAtMost 31 = .ok (.iload_n 2, 1) := by decide +kernel
theorem dX2_firstStepAtMost_32 : decode bX2_firstStepAtMost 32 = .ok (.if_icmp .gt 5, 3) := by decide +kernel
theorem dX2_firstStepAtMost_35 : decode bX2_firstStepAtMost 35 = .ok (.iload_n 3, 1) := by decide +kernel
theorem dX2_firstStepAtMost_36 : decode bX2_firstStepAtMost 36 = .ok (.ireturn, 1) := by decide +kernel
theorem dX2_firstStepAtMost_37 : decode bX2_firstStepAtMost 37 = .ok (.iinc 3 1, 3) := by decide +kernel
theorem dX2_firstStepAtMost_40 : decode bX2_firstStepAtMost 40 = .ok (.goto (-38), 3) := by decide +kernel
theorem dX2_firstStepAtMost_43 : decode bX2_firstStepAtMost 43 = .ok (.iconst (-1), 1) := by decide +kernel
theorem dX2_firstStepAtMost_44 : decode bX2_firstStepAtMost 44 = .ok (.ireturn, 1) := by decide +kernel
theorem dX2_stillFrom_0 : decode bX2_stillFrom 0 = .ok (.aload_n 0, 1) := by decide +kernel
theorem dX2_stillFrom_1 : decode bX2_stillFrom 1 = .ok (.getfield 43, 3) := by decide +kernel
theorem dX2_stillFrom_4 : decode bX2_stillFrom 4 = .ok (.getfield 122, 3) := by decide +kernel
theorem dX2_stillFrom_7 : decode bX2_stillFrom 7 = .ok (.istore_n 2, 1) := by decide +kernel
theorem dX2_stillFrom_8 : decode bX2_stillFrom 8 = .ok (.iload_n 2, 1) := by decide +kernel
theorem dX2_stillFrom_9 : decode bX2_stillFrom 9 = .ok (.ifCond .le 32, 3) := by decide +kernel
theorem dX2_stillFrom_12 : decode bX2_stillFrom 12 = .ok (.aload_n 0, 1) := by decide +kernel
theorem dX2_stillFrom_13 : decode bX2_stillFrom 13 = .ok (.iload_n 1, 1) := by decide +kernel
theorem dX2_stillFrom_14 : decode bX2_stillFrom 14 = .ok (.iload_n 2, 1) := by decide +kernel
theorem dX2_stillFrom_15 : decode bX2_stillFrom 15 = .ok (.iconst 1, 1) := by decide +kernel
theorem dX2_stillFrom_16 : decode bX2_stillFrom 16 = .ok (.isub, 1) := by decide +kernel
theorem dX2_stillFrom_17 : decode bX2_stillFrom 17 = .ok (.invokevirtual 119, 3) := by decide +kernel
theorem dX2_stillFrom_20 : decode bX2_stillFrom 20 = .ok (.aload_n 0, 1) := by decide +kernel
theorem dX2_stillFrom_21 : decode bX2_stillFrom 21 = .ok (.iload_n 1, 1) := by decide +kernel
theorem dX2_stillFrom_22 : decode bX2_stillFrom 22 = .ok (.aload_n 0, 1) := by decide +kernel
theorem dX2_stillFrom_23 : decode bX2_stillFrom 23 = .ok (.getfield 43, 3) := by decide +kernel
theorem dX2_stillFrom_26 : decode bX2_stillFrom 26 = .ok (.getfield 122, 3) := by decide +kernel
theorem dX2_stillFrom_29 : decode bX2_stillFrom 29 = .ok (.invokevirtual 119, 3) := by decide +kernel
theorem dX2_stillFrom_32 : decode bX2_stillFrom 32 = .ok (.if_icmp .ne 9, 3) := by decide +kernel
theorem dX2_stillFrom_35 : decode bX2_stillFrom 35 = .ok (.iinc 2 (-1), 3) := by decide +kernel
theorem dX2_stillFrom_38 : decode bX2_stillFrom 38 = .ok (.goto (-30), 3) := by decide +kernel
theorem dX2_stillFrom_41 : decode bX2_stillFrom 41 = .ok (.iload_n 2, 1) := by decide +kernel
theorem dX2_stillFrom_42 : decode bX2_stillFrom 42 = .ok (.ireturn, 1) := by decide +kernel
theorem dX2_leastSkin_0 : decode bX2_leastSkin 0 = .ok (.iconst (-1), 1) := by decide +kernel
theorem dX2_leastSkin_1 : decode bX2_leastSkin 1 = .ok (.istore_n 2, 1) := by decide +kernel
theorem dX2_leastSkin_2 : decode bX2_leastSkin 2 = .ok (.iconst 0, 1) := by decide +kernel
theorem dX2_leastSkin_3 : decode bX2_leastSkin 3 = .ok (.istore_n 3, 1) := by decide +kernel
theorem dX2_leastSkin_4 : decode bX2_leastSkin 4 = .ok (.iload_n 3, 1) := by decide +kernel
theorem dX2_leastSkin_5 : decode bX2_leastSkin 5 = .ok (.aload_n 0, 1) := by decide +kernel
theorem dX2_leastSkin_6 : decode bX2_leastSkin 6 = .ok (.getfield 43, 3) := by decide +kernel
theorem dX2_leastSkin_9 : decode bX2_leastSkin 9 = .ok (.getfield 122, 3) := by decide +kernel
theorem dX2_leastSkin_12 : decode bX2_leastSkin 12 = .ok (.if_icmp .gt 43, 3) := by decide +kernel
theorem dX2_leastSkin_15 : decode bX2_leastSkin 15 = .ok (.aload_n 0, 1) := by decide +kernel
theorem dX2_leastSkin_16 : decode bX2_leastSkin 16 = .ok (.iload_n 1, 1) := by decide +kernel
theorem dX2_leastSkin_17 : decode bX2_leastSkin 17 = .ok (.iload_n 3, 1) := by decide +kernel
theorem dX2_leastSkin_18 : decode bX2_leastSkin 18 = .ok (.invokevirtual 119, 3) := by decide +kernel
theorem dX2_leastSkin_21 : decode bX2_leastSkin 21 = .ok (.istore 4, 2) := by decide +kernel
theorem dX2_leastSkin_23 : decode bX2_leastSkin 23 = .ok (.aload_n 0, 1) := by decide +kernel
theorem dX2_leastSkin_24 : decode bX2_leastSkin 24 = .ok (.getfield 43, 3) := by decide +kernel
theorem dX2_leastSkin_27 : decode bX2_leastSkin 27 = .ok (.iload_n 1, 1) := by decide +kernel
theorem dX2_leastSkin_28 : decode bX2_leastSkin 28 = .ok (.iload_n 3, 1) := by decide +kernel
theorem dX2_leastSkin_29 : decode bX2_leastSkin 29 = .ok (.invokevirtual 134, 3) := by decide +kernel
theorem dX2_leastSkin_32 : decode bX2_leastSkin 32 = .ok (.ifCond .eq 17, 3) := by decide +kernel
theorem dX2_leastSkin_35 : decode bX2_leastSkin 35 = .ok (.iload_n 2, 1) := by decide +kernel
theorem dX2_leastSkin_36 : decode bX2_leastSkin 36 = .ok (.iconst (-1), 1) := by decide +kernel
theorem dX2_leastSkin_37 : decode bX2_leastSkin 37 = .ok (.if_icmp .eq 9, 3) := by decide +kernel
theorem dX2_leastSkin_40 : decode bX2_leastSkin 40 = .ok (.iload 4, 2) := by decide +kernel
theorem dX2_leastSkin_42 : decode bX2_leastSkin 42 = .ok (.iload_n 2, 1) := by decide +kernel
theorem dX2_leastSkin_43 : decode bX2_leastSkin 43 = .ok (.if_icmp .ge 6, 3) := by decide +kernel
theorem dX2_leastSkin_46 : decode bX2_leastSkin 46 = .ok (.iload 4, 2) := by decide +kernel
theorem dX2_leastSkin_48 : decode bX2_leastSkin 48 = .ok (.istore_n 2, 1) := by decide +kernel
theorem dX2_leastSkin_49 : decode bX2_leastSkin 49 = .ok (.iinc 3 1, 3) := by decide +kernel
theorem dX2_leastSkin_52 : decode bX2_leastSkin 52 = .ok (.goto (-48), 3) := by decide +kernel
theorem dX2_leastSkin_55 : decode bX2_leastSkin 55 = .ok (.iload_n 2, 1) := by decide +kernel
theorem dX2_leastSkin_56 : decode bX2_leastSkin 56 = .ok (.ireturn, 1) := by decide +kernel
theorem dX2_chillStep_0 : decode bX2_chillStep 0 = .ok (.iconst (-1), 1) := by decide +kernel
theorem dX2_chillStep_1 : decode bX2_chillStep 1 = .ok (.istore_n 2, 1) := by decide +kernel
theorem dX2_chillStep_2 : decode bX2_chillStep 2 = .ok (.iconst 0, 1) := by decide +kernel
theorem dX2_chillStep_3 : decode bX2_chillStep 3 = .ok (.istore_n 3, 1) := by decide +kernel
theorem dX2_chillStep_4 : decode bX2_chillStep 4 = .ok (.iconst 0, 1) := by decide +kernel
theorem dX2_chillStep_5 : decode bX2_chillStep 5 = .ok (.istore 4, 2) := by decide +kernel
theorem dX2_chillStep_7 : decode bX2_chillStep 7 = .ok (.iload 4, 2) := by decide +kernel
theorem dX2_chillStep_9 : decode bX2_chillStep 9 = .ok (.aload_n 0, 1) := by decide +kernel
theorem dX2_chillStep_10 : decode bX2_chillStep 10 = .ok (.getfield 43, 3) := by decide +kernel
theorem dX2_chillStep_13 : decode bX2_chillStep 13 = .ok (.getfield 122, 3) := by decide +kernel
theorem dX2_chillStep_16 : decode bX2_chillStep 16 = .ok (.if_icmp .ge 31, 3) := by decide +kernel
theorem dX2_chillStep_19 : decode bX2_chillStep 19 = .ok (.aload_n 0, 1) := by decide +kernel
theorem dX2_chillStep_20 : decode bX2_chillStep 20 = .ok (.iload_n 1, 1) := by decide +kernel
theorem dX2_chillStep_21 : decode bX2_chillStep 21 = .ok (.iload 4, 2) := by decide +kernel
theorem dX2_chillStep_23 : decode bX2_chillStep 23 = .ok (.invokevirtual 155, 3) := by decide +kernel
theorem dX2_chillStep_26 : decode bX2_chillStep 26 = .ok (.iload_n 3, 1) := by decide +kernel
theorem dX2_chillStep_27 : decode bX2_chillStep 27 = .ok (.if_icmp .le 14, 3) := by decide +kernel
theorem dX2_chillStep_30 : decode bX2_chillStep 30 = .ok (.aload_n 0, 1) := by decide +kernel
theorem dX2_chillStep_31 : decode bX2_chillStep 31 = .ok (.iload_n 1, 1) := by decide +kernel
theorem dX2_chillStep_32 : decode bX2_chillStep 32 = .ok (.iload 4, 2) := by decide +kernel
theorem dX2_chillStep_34 : decode bX2_chillStep 34 = .ok (.invokevirtual 155, 3) := by decide +kernel
theorem dX2_chillStep_37 : decode bX2_chillStep 37 = .ok (.istore_n 3, 1) := by decide +kernel
theorem dX2_chillStep_38 : decode bX2_chillStep 38 = .ok (.iload 4, 2) := by decide +kernel
theorem dX2_chillStep_40 : decode bX2_chillStep 40 = .ok (.istore_n 2, 1) := by decide +kernel
theorem dX2_chillStep_41 : decode bX2_chillStep 41 = .ok (.iinc 4 1, 3) := by decide +kernel
theorem dX2_chillStep_44 : decode bX2_chillStep 44 = .ok (.goto (-37), 3) := by decide +kernel
theorem dX2_chillStep_47 : decode bX2_chillStep 47 = .ok (.iload_n 2, 1) := by decide +kernel
theorem dX2_chillStep_48 : decode bX2_chillStep 48 = .ok (.ireturn, 1) := by decide +kernel
theorem dX2_strainedSteps_0 : decode bX2_strainedSteps 0 = .ok (.aload_n 0, 1) := by decide +kernel
theorem dX2_strainedSteps_1 : decode bX2_strainedSteps 1 = .ok (.getfield 43, 3) := by decide +kernel
theorem dX2_strainedSteps_4 : decode bX2_strainedSteps 4 = .ok (.iload_n 1, 1) := by decide +kernel
theorem dX2_strainedSteps_5 : decode bX2_strainedSteps 5 = .ok (.invokevirtual 112, 3) := by decide +kernel
theorem dX2_strainedSteps_8 : decode bX2_strainedSteps 8 = .ok (.ifCond .ne 5, 3) := by decide +kernel
theorem dX2_strainedSteps_11 : decode bX2_strainedSteps 11 = .ok (.iconst 0, 1) := by decide +kernel
theorem dX2_strainedSteps_12 : decode bX2_strainedSteps 12 = .ok (.ireturn, 1) := by decide +kernel
theorem dX2_strainedSteps_13 : decode bX2_strainedSteps 13 = .ok (.iconst 0, 1) := by decide +kernel
theorem dX2_strainedSteps_14 : decode bX2_strainedSteps 14 = .ok (.istore_n 2, 1) := by decide +kernel
theorem dX2_strainedSteps_15 : decode bX2_strainedSteps 15 = .ok (.iconst 0, 1) := by decide +kernel
theorem dX2_strainedSteps_16 : decode bX2_strainedSteps 16 = .ok (.istore_n 3, 1) := by decide +kernel
theorem dX2_strainedSteps_17 : decode bX2_strainedSteps 17 = .ok (.iload_n 3, 1) := by decide +kernel
theorem dX2_strainedSteps_18 : decode bX2_strainedSteps 18 = .ok (.aload_n 0, 1) := by decide +kernel
theorem dX2_strainedSteps_19 : decode bX2_strainedSteps 19 = .ok (.getfield 43, 3) := by decide +kernel
theorem dX2_strainedSteps_22 : decode bX2_strainedSteps 22 = .ok (.getfield 122, 3) := by decide +kernel
theorem dX2_strainedSteps_25 : decode bX2_strainedSteps 25 = .ok (.if_icmp .gt 32, 3) := by decide +kernel
theorem dX2_strainedSteps_28 : decode bX2_strainedSteps 28 = .ok (.aload_n 0, 1) := by decide +kernel
theorem dX2_strainedSteps_29 : decode bX2_strainedSteps 29 = .ok (.iload_n 1, 1) := by decide +kernel
theorem dX2_strainedSteps_30 : decode bX2_strainedSteps 30 = .ok (.iload_n 3, 1) := by decide +kernel
theorem dX2_strainedSteps_31 : decode bX2_strainedSteps 31 = .ok (.invokevirtual 125, 3) := by decide +kernel
theorem dX2_strainedSteps_34 : decode bX2_strainedSteps 34 = .ok (.aload_n 0, 1) := by decide +kernel
theorem dX2_strainedSteps_35 : decode bX2_strainedSteps 35 = .ok (.getfield 43, 3) := by decide +kernel
theorem dX2_strainedSteps_38 : decode bX2_strainedSteps 38 = .ok (.getfield 109, 3) := by decide +kernel
theorem dX2_strainedSteps_41 : decode bX2_strainedSteps 41 = .ok (.iload_n 1, 1) := by decide +kernel
theorem dX2_strainedSteps_42 : decode bX2_strainedSteps 42 = .ok (.iaload, 1) := by decide +kernel
theorem dX2_strainedSteps_43 : decode bX2_strainedSteps 43 = .ok (.iconst 2, 1) := by decide +kernel
theorem dX2_strainedSteps_44 : decode bX2_strainedSteps 44 = .ok (.idiv, 1) := by decide +kernel
theorem dX2_strainedSteps_45 : decode bX2_strainedSteps 45 = .ok (.if_icmp .le 6, 3) := by decide +kernel
theorem dX2_strainedSteps_48 : decode bX2_strainedSteps 48 = .ok (.iinc 2 1, 3) := by decide +kernel
theorem dX2_strainedSteps_51 : decode bX2_strainedSteps 51 = .ok (.iinc 3 1, 3) := by decide +kernel
theorem dX2_strainedSteps_54 : decode bX2_strainedSteps 54 = .ok (.goto (-37), 3) := by decide +kernel
theorem dX2_strainedSteps_57 : decode bX2_strainedSteps 57 = .ok (.iload_n 2, 1) := by decide +kernel
theorem dX2_strainedSteps_58 : decode bX2_strainedSteps 58 = .ok (.ireturn, 1) := by decide +kernel
theorem dX9_init_0 : decode bX9_init 0 = .ok (.aload_n 0, 1) := by decide +kernel
theorem dX9_init_1 : decode bX9_init 1 = .ok (.invokespecial 3, 3) := by decide +kernel
theorem dX9_init_4 : decode bX9_init 4 = .ok (.aload_n 0, 1) := by decide +kernel
theorem dX9_init_5 : decode bX9_init 5 = .ok (.new 9, 3) := by decide +kernel
theorem dX9_init_8 : decode bX9_init 8 = .ok (.dup, 1) := by decide +kernel
theorem dX9_init_9 : decode bX9_init 9 = .ok (.invokespecial 11, 3) := by decide +kernel
theorem dX9_init_12 : decode bX9_init 12 = .ok (.putfield 12, 3) := by decide +kernel
theorem dX9_init_15 : decode bX9_init 15 = .ok (.aload_n 0, 1) := by decide +kernel
theorem dX9_init_16 : decode bX9_init 16 = .ok (.new 18, 3) := by decide +kernel
theorem dX9_init_19 : decode bX9_init 19 = .ok (.dup, 1) := by decide +kernel
theorem dX9_init_20 : decode bX9_init 20 = .ok (.invokespecial 20, 3) := by decide +kernel
theorem dX9_init_23 : decode bX9_init 23 = .ok (.putfield 21, 3) := by decide +kernel
theorem dX9_init_26 : decode bX9_init 26 = .ok (.aload_n 0, 1) := by decide +kernel
theorem dX9_init_27 : decode bX9_init 27 = .ok (.sipush 128, 3) := by decide +kernel
theorem dX9_init_30 : decode bX9_init 30 = .ok (.newarray .int, 2) := by decide +kernel
theorem dX9_init_32 : decode bX9_init 32 = .ok (.putfield 25, 3) := by decide +kernel
theorem dX9_init_35 : decode bX9_init 35 = .ok (.aload_n 0, 1) := by decide +kernel
theorem dX9_init_36 : decode bX9_init 36 = .ok (.bipush 8, 2) := by decide +kernel
theorem dX9_init_38 : decode bX9_init 38 = .ok (.newarray .int, 2) := by decide +kernel
theorem dX9_init_40 : decode bX9_init 40 = .ok (.putfield 29, 3) := by decide +kernel
theorem dX9_init_43 : decode bX9_init 43 = .ok (.aload_n 0, 1) := by decide +kernel
theorem dX9_init_44 : decode bX9_init 44 = .ok (.aload_n 1, 1) := by decide +kernel
theorem dX9_init_45 : decode bX9_init 45 = .ok (.putfield 32, 3) := by decide +kernel
theorem dX9_init_48 : decode bX9_init 48 = .ok (.aload_n 0, 1) := by decide +kernel
theorem dX9_init_49 : decode bX9_init 49 = .ok (.new 35, 3) := by decide +kernel
theorem dX9_init_52 : decode bX9_init 52 = .ok (.dup, 1) := by decide +kernel
theorem dX9_init_53 : decode bX9_init 53 = .ok (.aload_n 0, 1) := by decide +kernel
theorem dX9_init_54 : decode bX9_init 54 = .ok (.getfield 12, 3) := by decide +kernel
theorem dX9_init_57 : decode bX9_init 57 = .ok (.invokespecial 37, 3) := by decide +kernel
theorem dX9_init_60 : decode bX9_init 60 = .ok (.putfield 40, 3) := by decide +kernel
theorem dX9_init_63 : decode bX9_init 63 = .ok (.return_, 1) := by decide +kernel
theorem dX9_soundBits_0 : decode bX9_soundBits 0 = .ok (.aload_n 0, 1) := by decide +kernel
theorem dX9_soundBits_1 : decode bX9_soundBits 1 = .ok (.getfield 40, 3) := by decide +kernel
theorem dX9_soundBits_4 : decode bX9_soundBits 4 = .ok (.iconst 0, 1) := by decide +kernel
theorem dX9_soundBits_5 : decode bX9_soundBits 5 = .ok (.aload_n 0, 1) := by decide +kernel
theorem dX9_soundBits_6 : decode bX9_soundBits 6 = .ok (.getfield 12, 3) := by decide +kernel
theorem dX9_soundBits_9 : decode bX9_soundBits 9 = .ok (.getfield 44, 3) := by decide +kernel
theorem dX9_soundBits_12 : decode bX9_soundBits 12 = .ok (.getfield 48, 3) := by decide +kernel
theorem dX9_soundBits_15 : decode bX9_soundBits 15 = .ok (.bipush 63, 2) := by decide +kernel
theorem dX9_soundBits_17 : decode bX9_soundBits 17 = .ok (.invokevirtual 54, 3) := by decide +kernel
theorem dX9_soundBits_20 : decode bX9_soundBits 20 = .ok (.aload_n 0, 1) := by decide +kernel
theorem dX9_soundBits_21 : decode bX9_soundBits 21 = .ok (.getfield 40, 3) := by decide +kernel
theorem dX9_soundBits_24 : decode bX9_soundBits 24 = .ok (.invokevirtual 58, 3) := by decide +kernel
theorem dX9_soundBits_27 : decode bX9_soundBits 27 = .ok (.ireturn, 1) := by decide +kernel
theorem dX9_soundCount_0 : decode bX9_soundCount 0 = .ok (.aload_n 0, 1) := by decide +kernel
theorem dX9_soundCount_1 : decode bX9_soundCount 1 = .ok (.getfield 40, 3) := by decide +kernel
theorem dX9_soundCount_4 : decode bX9_soundCount 4 = .ok (.iconst 0, 1) := by decide +kernel
theorem dX9_soundCount_5 : decode bX9_soundCount 5 = .ok (.aload_n 0, 1) := by decide +kernel
theorem dX9_soundCount_6 : decode bX9_soundCount 6 = .ok (.getfield 12, 3) := by decide +kernel
theorem dX9_soundCount_9 : decode bX9_soundCount 9 = .ok (.getfield 44, 3) := by decide +kernel
theorem dX9_soundCount_12 : decode bX9_soundCount 12 = .ok (.getfield 48, 3) := by decide +kernel
theorem dX9_soundCount_15 : decode bX9_soundCount 15 = .ok (.bipush 63, 2) := by decide +kernel
theorem dX9_soundCount_17 : decode bX9_soundCount 17 = .ok (.invokevirtual 54, 3) := by decide +kernel
theorem dX9_soundCount_20 : decode bX9_soundCount 20 = .ok (.aload_n 0, 1) := by decide +kernel
theorem dX9_soundCount_21 : decode bX9_soundCount 21 = .ok (.getfield 40, 3) := by decide +kernel
theorem dX9_soundCount_24 : decode bX9_soundCount 24 = .ok (.invokevirtual 58, 3) := by decide +kernel
theorem dX9_soundCount_27 : decode bX9_soundCount 27 = .ok (.invokestatic 62, 3) := by decide +kernel
theorem dX9_soundCount_30 : decode bX9_soundCount 30 = .ok (.ireturn, 1) := by decide +kernel
theorem dX9_isSound_0 : decode bX9_isSound 0 = .ok (.aload_n 0, 1) := by decide +kernel
theorem dX9_isSound_1 : decode bX9_isSound 1 = .ok (.getfield 40, 3) := by decide +kernel
theorem dX9_isSound_4 : decode bX9_isSound 4 = .ok (.iconst 0, 1) := by decide +kernel
theorem dX9_isSound_5 : decode bX9_isSound 5 = .ok (.aload_n 0, 1) := by decide +kernel
theorem dX9_isSound_6 : decode bX9_isSound 6 = .ok (.getfield 12, 3) := by decide +kernel
theorem dX9_isSound_9 : decode bX9_isSound 9 = .ok (.getfield 44, 3) := by decide +kernel
theorem dX9_isSound_12 : decode bX9_isSound 12 = .ok (.getfield 48, 3) := by decide +kernel
theorem dX9_isSound_15 : decode bX9_isSound 15 = .ok (.iconst 1, 1) := by decide +kernel
theorem dX9_isSound_16 : decode bX9_isSound 16 = .ok (.iload_n 1, 1) := by decide +kernel
theorem dX9_isSound_17 : decode bX9_isSound 17 = .ok (.ishl, 1) := by decide +kernel
theorem dX9_isSound_18 : decode bX9_isSound 18 = .ok (.invokevirtual 54, 3) := by decide +kernel
theorem dX9_isSound_21 : decode bX9_isSound 21 = .ok (.aload_n 0, 1) := by decide +kernel
theorem dX9_isSound_22 : decode bX9_isSound 22 = .ok (.getfield 40, 3) := by decide +kernel
theorem dX9_isSound_25 : decode bX9_isSound 25 = .ok (.invokevirtual 58, 3) := by decide +kernel
theorem dX9_isSound_28 : decode bX9_isSound 28 = .ok (.iload_n 1, 1) := by decide +kernel
theorem dX9_isSound_29 : decode bX9_isSound 29 = .ok (.ishr, 1) := by decide +kernel
theorem dX9_isSound_30 : decode bX9_isSound 30 = .ok (.iconst 1, 1) := by decide +kernel
theorem dX9_isSound_31 : decode bX9_isSound 31 = .ok (.iand, 1) := by decide +kernel
theorem dX9_isSound_32 : decode bX9_isSound 32 = .ok (.ifCond .eq 7, 3) := by decide +kernel
theorem dX9_isSound_35 : decode bX9_isSound 35 = .ok (.iconst 1, 1) := by decide +kernel
theorem dX9_isSound_36 : decode bX9_isSound 36 = .ok (.goto 4, 3) := by decide +kernel
theorem dX9_isSound_39 : decode bX9_isSound 39 = .ok (.iconst 0, 1) := by decide +kernel
theorem dX9_isSound_40 : decode bX9_isSound 40 = .ok (.ireturn, 1) := by decide +kernel
theorem dX9_strengthFor_0 : decode bX9_strengthFor 0 = .ok (.aload_n 0, 1) := by decide +kernel
theorem dX9_strengthFor_1 : decode bX9_strengthFor 1 = .ok (.getfield 12, 3) := by decide +kernel
theorem dX9_strengthFor_4 : decode bX9_strengthFor 4 = .ok (.aload_n 0, 1) := by decide +kernel
theorem dX9_strengthFor_5 : decode bX9_strengthFor 5 = .ok (.getfield 32, 3) := by decide +kernel
theorem dX9_strengthFor_8 : decode bX9_strengthFor 8 = .ok (.invokevirtual 68, 3) := by decide +kernel
theorem dX9_strengthFor_11 : decode bX9_strengthFor 11 = .ok (.aload_n 0, 1) := by decide +kernel
theorem dX9_strengthFor_12 : decode bX9_strengthFor 12 = .ok (.getfield 12, 3) := by decide +kernel
theorem dX9_strengthFor_15 : decode bX9_strengthFor 15 = .ok (.getfield 44, 3) := by decide +kernel
theorem dX9_strengthFor_18 : decode bX9_strengthFor 18 = .ok (.iload_n 1, 1) := by decide +kernel
theorem dX9_strengthFor_19 : decode bX9_strengthFor 19 = .ok (.invokevirtual 71, 3) := by decide +kernel
theorem dX9_strengthFor_22 : decode bX9_strengthFor 22 = .ok (.ifCond .ne 5, 3) := by decide +kernel
theorem dX9_strengthFor_25 : decode bX9_strengthFor 25 = .ok (.iconst 0, 1) := by decide +kernel
theorem dX9_strengthFor_26 : decode bX9_strengthFor 26 = .ok (.ireturn, 1) := by decide +kernel
theorem dX9_strengthFor_27 : decode bX9_strengthFor 27 = .ok (.aload_n 0, 1) := by decide +kernel
theorem dX9_strengthFor_28 : decode bX9_strengthFor 28 = .ok (.getfield 12, 3) := by decide +kernel
theorem dX9_strengthFor_31 : decode bX9_strengthFor 31 = .ok (.getfield 44, 3) := by decide +kernel
theorem dX9_strengthFor_34 : decode bX9_strengthFor 34 = .ok (.getfield 75, 3) := by decide +kernel
theorem dX9_strengthFor_37 : decode bX9_strengthFor 37 = .ok (.iload_n 1, 1) := by decide +kernel
theorem dX9_strengthFor_38 : decode bX9_strengthFor 38 = .ok (.ldc 78, 2) := by decide +kernel
theorem dX9_strengthFor_40 : decode bX9_strengthFor 40 = .ok (.iastore, 1) := by decide +kernel
theorem dX9_strengthFor_41 : decode bX9_strengthFor 41 = .ok (.aload_n 0, 1) := by decide +kernel
theorem dX9_strengthFor_42 : decode bX9_strengthFor 42 = .ok (.getfield 40, 3) := by decide +kernel
theorem dX9_strengthFor_45 : decode bX9_strengthFor 45 = .ok (.iconst 0, 1) := by decide +kernel
theorem dX9_strengthFor_46 : decode bX9_strengthFor 46 = .ok (.aload_n 0, 1) := by decide +kernel
theorem dX9_strengthFor_47 : decode bX9_strengthFor 47 = .ok (.getfield 12, 3) := by decide +kernel
theorem dX9_strengthFor_50 : decode bX9_strengthFor 50 = .ok (.getfield 44, 3) := by decide +kernel
theorem dX9_strengthFor_53 : decode bX9_strengthFor 53 = .ok (.getfield 48, 3) := by decide +kernel
theorem dX9_strengthFor_56 : decode bX9_strengthFor 56 = .ok (.iconst 1, 1) := by decide +kernel
theorem dX9_strengthFor_57 : decode bX9_strengthFor 57 = .ok (.iload_n 1, 1) := by decide +kernel
theorem dX9_strengthFor_58 : decode bX9_strengthFor 58 = .ok (.ishl, 1) := by decide +kernel
theorem dX9_strengthFor_59 : decode bX9_strengthFor 59 = .ok (.invokevirtual 54, 3) := by decide +kernel
theorem dX9_strengthFor_62 : decode bX9_strengthFor 62 = .ok (.aload_n 0, 1) := by decide +kernel
theorem dX9_strengthFor_63 : decode bX9_strengthFor 63 = .ok (.getfield 40, 3) := by decide +kernel
theorem dX9_strengthFor_66 : decode bX9_strengthFor 66 = .ok (.iload_n 1, 1) := by decide +kernel
theorem dX9_strengthFor_67 : decode bX9_strengthFor 67 = .ok (.invokevirtual 79, 3) := by decide +kernel
theorem dX9_strengthFor_70 : decode bX9_strengthFor 70 = .ok (.istore_n 2, 1) := by decide +kernel
theorem dX9_strengthFor_71 : decode bX9_strengthFor 71 = .ok (.aload_n 0, 1) := by decide +kernel
theorem dX9_strengthFor_72 : decode bX9_strengthFor 72 = .ok (.getfield 12, 3) := by decide +kernel
theorem dX9_strengthFor_75 : decode bX9_strengthFor 75 = .ok (.getfield 44, 3) := by decide +kernel
theorem dX9_strengthFor_78 : decode bX9_strengthFor 78 = .ok (.iload_n 1, 1) := by decide +kernel
theorem dX9_strengthFor_79 : decode bX9_strengthFor 79 = .ok (.invokevirtual 82, 3) := by decide +kernel
theorem dX9_strengthFor_82 : decode bX9_strengthFor 82 = .ok (.iconst (-1), 1) := by decide +kernel
theorem dX9_strengthFor_83 : decode bX9_strengthFor 83 = .ok (.if_icmp .eq 19, 3) := by decide +kernel
theorem dX9_strengthFor_86 : decode bX9_strengthFor 86 = .ok (.iload_n 2, 1) := by decide +kernel
theorem dX9_strengthFor_87 : decode bX9_strengthFor 87 = .ok (.iconst 2, 1) := by decide +kernel
theorem dX9_strengthFor_88 : decode bX9_strengthFor 88 = .ok (.aload_n 0, 1) := by decide +kernel
theorem dX9_strengthFor_89 : decode bX9_strengthFor 89 = .ok (.getfield 40, 3) := by decide +kernel
theorem dX9_strengthFor_92 : decode bX9_strengthFor 92 = .ok (.getfield 85, 3) := by decide +kernel
theorem dX9_strengthFor_95 : decode bX9_strengthFor 95 = .ok (.iload_n 1, 1) := by decide +kernel
theorem dX9_strengthFor_96 : decode bX9_strengthFor 96 = .ok (.iaload, 1) := by decide +kernel
theorem dX9_strengthFor_97 : decode bX9_strengthFor 97 = .ok (.imul, 1) := by decide +kernel
theorem dX9_strengthFor_98 : decode bX9_strengthFor 98 = .ok (.invokestatic 88, 3) := by decide +kernel
theorem dX9_strengthFor_101 : decode bX9_strengthFor 101 = .ok (.istore_n 2, 1) := by decide +kernel
theorem dX9_strengthFor_102 : decode bX9_strengthFor 102 = .ok (.iload_n 2, 1) := by decide +kernel
theorem dX9_strengthFor_103 : decode bX9_strengthFor 103 = .ok (.ireturn, 1) := by decide +kernel
theorem dX9_greatestThick_0 : decode bX9_greatestThick 0 = .ok (.aload_n 0, 1) := by decide +kernel
theorem dX9_greatestThick_1 : decode bX9_greatestThick 1 = .ok (.getfield 12, 3) := by decide +kernel
theorem dX9_greatestThick_4 : decode bX9_greatestThick 4 = .ok (.aload_n 0, 1) := by decide +kernel
theorem dX9_greatestThick_5 : decode bX9_greatestThick 5 = .ok (.getfield 32, 3) := by decide +kernel
theorem dX9_greatestThick_8 : decode bX9_greatestThick 8 = .ok (.invokevirtual 68, 3) := by decide +kernel
theorem dX9_greatestThick_11 : decode bX9_greatestThick 11 = .ok (.aload_n 0, 1) := by decide +kernel
theorem dX9_greatestThick_12 : decode bX9_greatestThick 12 = .ok (.getfield 12, 3) := by decide +kernel
theorem dX9_greatestThick_15 : decode bX9_greatestThick 15 = .ok (.getfield 44, 3) := by decide +kernel
theorem dX9_greatestThick_18 : decode bX9_greatestThick 18 = .ok (.iload_n 1, 1) := by decide +kernel
theorem dX9_greatestThick_19 : decode bX9_greatestThick 19 = .ok (.invokevirtual 71, 3) := by decide +kernel
theorem dX9_greatestThick_22 : decode bX9_greatestThick 22 = .ok (.ifCond .ne 5, 3) := by decide +kernel
theorem dX9_greatestThick_25 : decode bX9_greatestThick 25 = .ok (.iconst (-1), 1) := by decide +kernel
theorem dX9_greatestThick_26 : decode bX9_greatestThick 26 = .ok (.ireturn, 1) := by decide +kernel
theorem dX9_greatestThick_27 : decode bX9_greatestThick 27 = .ok (.bipush 9, 2) := by decide +kernel
theorem dX9_greatestThick_29 : decode bX9_greatestThick 29 = .ok (.istore_n 2, 1) := by decide +kernel
theorem dX9_greatestThick_30 : decode bX9_greatestThick 30 = .ok (.iload_n 2, 1) := by decide +kernel
theorem dX9_greatestThick_31 : decode bX9_greatestThick 31 = .ok (.iconst 1, 1) := by decide +kernel
theorem dX9_greatestThick_32 : decode bX9_greatestThick 32 = .ok (.if_icmp .lt 32, 3) := by decide +kernel
theorem dX9_greatestThick_35 : decode bX9_greatestThick 35 = .ok (.aload_n 0, 1) := by decide +kernel
theorem dX9_greatestThick_36 : decode bX9_greatestThick 36 = .ok (.getfield 12, 3) := by decide +kernel
theorem dX9_greatestThick_39 : decode bX9_greatestThick 39 = .ok (.getfield 44, 3) := by decide +kernel
theorem dX9_greatestThick_42 : decode bX9_greatestThick 42 = .ok (.getfield 94, 3) := by decide +kernel
theorem dX9_greatestThick_45 : decode bX9_greatestThick 45 = .ok (.iload_n 1, 1) := by decide +kernel
theorem dX9_greatestThick_46 : decode bX9_greatestThick 46 = .ok (.iload_n 2, 1) := by decide +kernel
theorem dX9_greatestThick_47 : decode bX9_greatestThick 47 = .ok (.iastore, 1) := by decide +kernel
theorem dX9_greatestThick_48 : decode bX9_greatestThick 48 = .ok (.aload_n 0, 1) := by decide +kernel
theorem dX9_greatestThick_49 : decode bX9_greatestThick 49 = .ok (.iload_n 1, 1) := by decide +kernel
theorem dX9_greatestThick_50 : decode bX9_greatestThick 50 = .ok (.invokevirtual 97, 3) := by decide +kernel
theorem dX9_greatestThick_53 : decode bX9_greatestThick 53 = .ok (.ifCond .eq 5, 3) := by decide +kernel
theorem dX9_greatestThick_56 : decode bX9_greatestThick 56 = .ok (.iload_n 2, 1) := by decide +kernel
theorem dX9_greatestThick_57 : decode bX9_greatestThick 57 = .ok (.ireturn, 1) := by decide +kernel
theorem dX9_greatestThick_58 : decode bX9_greatestThick 58 = .ok (.iinc 2 (-1), 3) := by decide +kernel
theorem dX9_greatestThick_61 : decode bX9_greatestThick 61 = .ok (.goto (-31), 3) := by decide +kernel
theorem dX9_greatestThick_64 : decode bX9_greatestThick 64 = .ok (.iconst (-1), 1) := by decide +kernel
theorem dX9_greatestThick_65 : decode bX9_greatestThick 65 = .ok (.ireturn, 1) := by decide +kernel
theorem dX9_soundByPace_0 : decode bX9_soundByPace 0 = .ok (.aload_n 0, 1) := by decide +kernel
theorem dX9_soundByPace_1 : decode bX9_soundByPace 1 = .ok (.getfield 12, 3) := by decide +kernel
theorem dX9_soundByPace_4 : decode bX9_soundByPace 4 = .ok (.aload_n 0, 1) := by decide +kernel
theorem dX9_soundByPace_5 : decode bX9_soundByPace 5 = .ok (.getfield 32, 3) := by decide +kernel
theorem dX9_soundByPace_8 : decode bX9_soundByPace 8 = .ok (.invokevirtual 68, 3) := by decide +kernel
theorem dX9_soundByPace_11 : decode bX9_soundByPace 11 = .ok (.aload_n 0, 1) := by decide +kernel
theorem dX9_soundByPace_12 : decode bX9_soundByPace 12 = .ok (.getfield 12, 3) := by decide +kernel
theorem dX9_soundByPace_15 : decode bX9_soundByPace 15 = .ok (.getfield 44, 3) := by decide +kernel
theorem dX9_soundByPace_18 : decode bX9_soundByPace 18 = .ok (.iload_n 1, 1) := by decide +kernel
theorem dX9_soundByPace_19 : decode bX9_soundByPace 19 = .ok (.putfield 100, 3) := by decide +kernel
theorem dX9_soundByPace_22 : decode bX9_soundByPace 22 = .ok (.aload_n 0, 1) := by decide +kernel
theorem dX9_soundByPace_23 : decode bX9_soundByPace 23 = .ok (.invokevirtual 103, 3) := by decide +kernel
theorem dX9_soundByPace_26 : decode bX9_soundByPace 26 = .ok (.ireturn, 1) := by decide +kernel
theorem dX9_bestPace_0 : decode bX9_bestPace 0 = .ok (.iconst 1, 1) := by decide +kernel
theorem dX9_bestPace_1 : decode bX9_bestPace 1 = .ok (.istore_n 1, 1) := by decide +kernel
theorem dX9_bestPace_2 : decode bX9_bestPace 2 = .ok (.aload_n 0, 1) := by decide +kernel
theorem dX9_bestPace_3 : decode bX9_bestPace 3 = .ok (.iconst 1, 1) := by decide +kernel
theorem dX9_bestPace_4 : decode bX9_bestPace 4 = .ok (.invokevirtual 106, 3) := by decide +kernel
theorem dX9_bestPace_7 : decode bX9_bestPace 7 = .ok (.istore_n 2, 1) := by decide +kernel
theorem dX9_bestPace_8 : decode bX9_bestPace 8 = .ok (.iconst 2, 1) := by decide +kernel
theorem dX9_bestPace_9 : decode bX9_bestPace 9 = .ok (.istore_n 3, 1) := by decide +kernel
theorem dX9_bestPace_10 : decode bX9_bestPace 10 = .ok (.iload_n 3, 1) := by decide +kernel
theorem dX9_bestPace_11 : decode bX9_bestPace 11 = .ok (.bipush 6, 2) := by decide +kernel
theorem dX9_bestPace_13 : decode bX9_bestPace 13 = .ok (.if_icmp .gt 27, 3) := by decide +kernel
theorem dX9_bestPace_16 : decode bX9_bestPace 16 = .ok (.aload_n 0, 1) := by decide +kernel
theorem dX9_bestPace_17 : decode bX9_bestPace 17 = .ok (.iload_n 3, 1) := by decide +kernel
theorem dX9_bestPace_18 : decode bX9_bestPace 18 = .ok (.invokevirtual 106, 3) := by decide +kernel
theorem dX9_bestPace_21 : decode bX9_bestPace 21 = .ok (.istore 4, 2) := by decide +kernel
theorem dX9_bestPace_23 : decode bX9_bestPace 23 = .ok (.iload 4, 2) := by decide +kernel
theorem dX9_bestPace_25 : decode bX9_bestPace 25 = .ok (.iload_n 2, 1) := by decide +kernel
theorem dX9_bestPace_26 : decode bX9_bestPace 26 = .ok (.if_icmp .le 8, 3) := by decide +kernel
theorem dX9_bestPace_29 : decode bX9_bestPace 29 = .ok (.iload 4, 2) := by decide +kernel
theorem dX9_bestPace_31 : decode bX9_bestPace 31 = .ok (.istore_n 2, 1) := by decide +kernel
theorem dX9_bestPace_32 : decode bX9_bestPace 32 = .ok (.iload_n 3, 1) := by decide +kernel
theorem dX9_bestPace_33 : decode bX9_bestPace 33 = .ok (.istore_n 1, 1) := by decide +kernel
theorem dX9_bestPace_34 : decode bX9_bestPace 34 = .ok (.iinc 3 1, 3) := by decide +kernel
theorem dX9_bestPace_37 : decode bX9_bestPace 37 = .ok (.goto (-27), 3) := by decide +kernel
theorem dX9_bestPace_40 : decode bX9_bestPace 40 = .ok (.iload_n 1, 1) := by decide +kernel
theorem dX9_bestPace_41 : decode bX9_bestPace 41 = .ok (.ireturn, 1) := by decide +kernel
theorem dX9_leastRaise_0 : decode bX9_leastRaise 0 = .ok (.aload_n 0, 1) := by decide +kernel
theorem dX9_leastRaise_1 : decode bX9_leastRaise 1 = .ok (.getfield 12, 3) := by decide +kernel
theorem dX9_leastRaise_4 : decode bX9_leastRaise 4 = .ok (.aload_n 0, 1) := by decide +kernel
theorem dX9_leastRaise_5 : decode bX9_leastRaise 5 = .ok (.getfield 32, 3) := by decide +kernel
theorem dX9_leastRaise_8 : decode bX9_leastRaise 8 = .ok (.invokevirtual 68, 3) := by decide +kernel
theorem dX9_leastRaise_11 : decode bX9_leastRaise 11 = .ok (.aload_n 0, 1) := by decide +kernel
theorem dX9_leastRaise_12 : decode bX9_leastRaise 12 = .ok (.getfield 12, 3) := by decide +kernel
theorem dX9_leastRaise_15 : decode bX9_leastRaise 15 = .ok (.getfield 44, 3) := by decide +kernel
theorem dX9_leastRaise_18 : decode bX9_leastRaise 18 = .ok (.iload_n 1, 1) := by decide +kernel
theorem dX9_leastRaise_19 : decode bX9_leastRaise 19 = .ok (.invokevirtual 109, 3) := by decide +kernel
theorem dX9_leastRaise_22 : decode bX9_leastRaise 22 = .ok (.ifCond .ne 5, 3) := by decide +kernel
theorem dX9_leastRaise_25 : decode bX9_leastRaise 25 = .ok (.iconst (-1), 1) := by decide +kernel
theorem dX9_leastRaise_26 : decode bX9_leastRaise 26 = .ok (.ireturn, 1) := by decide +kernel
theorem dX9_leastRaise_27 : decode bX9_leastRaise 27 = .ok (.iconst 0, 1) := by decide +kernel
theorem dX9_leastRaise_28 : decode bX9_leastRaise 28 = .ok (.istore 4, 2) := by decide +kernel
theorem dX9_leastRaise_30 : decode bX9_leastRaise 30 = .ok (.iload 4, 2) := by decide +kernel
theorem dX9_leastRaise_32 : decode bX9_leastRaise 32 = .ok (.iload_n 3, 1) := by decide +kernel
theorem dX9_leastRaise_33 : decode bX9_leastRaise 33 = .ok (.if_icmp .gt 47, 3) := by decide +kernel
theorem dX9_leastRaise_36 : decode bX9_leastRaise 36 = .ok (.aload_n 0, 1) := by decide +kernel
theorem dX9_leastRaise_37 : decode bX9_leastRaise 37 = .ok (.getfield 12, 3) := by decide +kernel
theorem dX9_leastRaise_40 : decode bX9_leastRaise 40 = .ok (.getfield 44, 3) := by decide +kernel
theorem dX9_leastRaise_43 : decode bX9_leastRaise 43 = .ok (.getfield 112, 3) := by decide +kernel
theorem dX9_leastRaise_46 : decode bX9_leastRaise 46 = .ok (.iload_n 1, 1) := by decide +kernel
theorem dX9_leastRaise_47 : decode bX9_leastRaise 47 = .ok (.aload_n 0, 1) := by decide +kernel
theorem dX9_leastRaise_48 : decode bX9_leastRaise 48 = .ok (.getfield 32, 3) := by decide +kernel
theorem dX9_leastRaise_51 : decode bX9_leastRaise 51 = .ok (.getfield 44, 3) := by decide +kernel
theorem dX9_leastRaise_54 : decode bX9_leastRaise 54 = .ok (.getfield 112, 3) := by decide +kernel
theorem dX9_leastRaise_57 : decode bX9_leastRaise 57 = .ok (.iload_n 1, 1) := by decide +kernel
theorem dX9_leastRaise_58 : decode bX9_leastRaise 58 = .ok (.iaload, 1) := by decide +kernel
theorem dX9_leastRaise_59 : decode bX9_leastRaise 59 = .ok (.iload 4, 2) := by decide +kernel
theorem dX9_leastRaise_61 : decode bX9_leastRaise 61 = .ok (.iadd, 1) := by decide +kernel
theorem dX9_leastRaise_62 : decode bX9_leastRaise 62 = .ok (.iastore, 1) := by decide +kernel
theorem dX9_leastRaise_63 : decode bX9_leastRaise 63 = .ok (.aload_n 0, 1) := by decide +kernel
theorem dX9_leastRaise_64 : decode bX9_leastRaise 64 = .ok (.iload_n 2, 1) := by decide +kernel
theorem dX9_leastRaise_65 : decode bX9_leastRaise 65 = .ok (.invokevirtual 97, 3) := by decide +kernel
theorem dX9_leastRaise_68 : decode bX9_leastRaise 68 = .ok (.ifCond .eq 6, 3) := by decide +kernel
theorem dX9_leastRaise_71 : decode bX9_leastRaise 71 = .ok (.iload 4, 2) := by decide +kernel
theorem dX9_leastRaise_73 : decode bX9_leastRaise 73 = .ok (.ireturn, 1) := by decide +kernel
theorem dX9_leastRaise_74 : decode bX9_leastRaise 74 = .ok (.iinc 4 1, 3) := by decide +kernel
theorem dX9_leastRaise_77 : decode bX9_leastRaise 77 = .ok (.goto (-47), 3) := by decide +kernel
theorem dX9_leastRaise_80 : decode bX9_leastRaise 80 = .ok (.iconst (-1), 1) := by decide +kernel
theorem dX9_leastRaise_81 : decode bX9_leastRaise 81 = .ok (.ireturn, 1) := by decide +kernel
theorem dX9_bestZoneFor_0 : decode bX9_bestZoneFor 0 = .ok (.iconst (-1), 1) := by decide +kernel
theorem dX9_bestZoneFor_1 : decode bX9_bestZoneFor 1 = .ok (.istore_n 2, 1) := by decide +kernel
theorem dX9_bestZoneFor_2 : decode bX9_bestZoneFor 2 = .ok (.sipush 201, 3) := by decide +kernel
theorem dX9_bestZoneFor_5 : decode bX9_bestZoneFor 5 = .ok (.istore_n 3, 1) := by decide +kernel
theorem dX9_bestZoneFor_6 : decode bX9_bestZoneFor 6 = .ok (.iconst 0, 1) := by decide +kernel
theorem dX9_bestZoneFor_7 : decode bX9_bestZoneFor 7 = .ok (.istore 4, 2) := by decide +kernel
theorem dX9_bestZoneFor_9 : decode bX9_bestZoneFor 9 = .ok (.iload 4, 2) := by decide +kernel
theorem dX9_bestZoneFor_11 : decode bX9_bestZoneFor 11 = .ok (.aload_n 0, 1) := by decide +kernel
theorem dX9_bestZoneFor_12 : decode bX9_bestZoneFor 12 = .ok (.getfield 32, 3) := by decide +kernel
theorem dX9_bestZoneFor_15 : decode bX9_bestZoneFor 15 = .ok (.getfield 44, 3) := by decide +kernel
theorem dX9_bestZoneFor_18 : decode bX9_bestZoneFor 18 = .ok (.getfield 115, 3) := by decide +kernel
theorem dX9_bestZoneFor_21 : decode bX9_bestZoneFor 21 = .ok (.if_icmp .ge 33, 3) := by decide +kernel
theorem dX9_bestZoneFor_24 : decode bX9_bestZoneFor 24 = .ok (.aload_n 0, 1) := by decide +kernel
theorem dX9_bestZoneFor_25 : decode bX9_bestZoneFor 25 = .ok (.iload 4, 2) := by decide +kernel
theorem dX9_bestZoneFor_27 : decode bX9_bestZoneFor 27 = .ok (.iload_n 1, 1) := by decide +kernel
theorem dX9_bestZoneFor_28 : decode bX9_bestZoneFor 28 = .ok (.iload_n 3, 1) := by decide +kernel
theorem dX9_bestZoneFor_29 : decode bX9_bestZoneFor 29 = .ok (.iconst 1, 1) := by decide +kernel
theorem dX9_bestZoneFor_30 : decode bX9_bestZoneFor 30 = .ok (.isub, 1) := by decide +kernel
theorem dX9_bestZoneFor_31 : decode bX9_bestZoneFor 31 = .ok (.invokevirtual 118, 3) := by decide +kernel
theorem dX9_bestZoneFor_34 : decode bX9_bestZoneFor 34 = .ok (.istore 5, 2) := by decide +kernel
theorem dX9_bestZoneFor_36 : decode bX9_bestZoneFor 36 = .ok (.iload 5, 2) := by decide +kernel
theorem dX9_bestZoneFor_38 : decode bX9_bestZoneFor 38 = .ok (.iconst (-1), 1) := by decide +kernel
theorem dX9_bestZoneFor_39 : decode bX9_bestZoneFor 39 = .ok (.if_icmp .eq 9, 3) := by decide +kernel
theorem dX9_bestZoneFor_42 : decode bX9_bestZoneFor 42 = .ok (.iload 5, 2) := by decide +kernel
theorem dX9_bestZoneFor_44 : decode bX9_bestZoneFor 44 = .ok (.istore_n 3, 1) := by decide +kernel
theorem dX9_bestZoneFor_45 : decode bX9_bestZoneFor 45 = .ok (.iload 4, 2) := by decide +kernel
theorem dX9_bestZoneFor_47 : decode bX9_bestZoneFor 47 = .ok (.istore_n 2, 1) := by decide +kernel
theorem dX9_bestZoneFor_48 : decode bX9_bestZoneFor 48 = .ok (.iinc 4 1, 3) := by decide +kernel
theorem dX9_bestZoneFor_51 : decode bX9_bestZoneFor 51 = .ok (.goto (-42), 3) := by decide +kernel
theorem dX9_bestZoneFor_54 : decode bX9_bestZoneFor 54 = .ok (.iload_n 2, 1) := by decide +kernel
theorem dX9_bestZoneFor_55 : decode bX9_bestZoneFor 55 = .ok (.ireturn, 1) := by decide +kernel
theorem dX9_bestSwap_0 : decode bX9_bestSwap 0 = .ok (.aload_n 0, 1) := by decide +kernel
theorem dX9_bestSwap_1 : decode bX9_bestSwap 1 = .ok (.getfield 12, 3) := by decide +kernel
theorem dX9_bestSwap_4 : decode bX9_bestSwap 4 = .ok (.aload_n 0, 1) := by decide +kernel
theorem dX9_bestSwap_5 : decode bX9_bestSwap 5 = .ok (.getfield 32, 3) := by decide +kernel
theorem dX9_bestSwap_8 : decode bX9_bestSwap 8 = .ok (.invokevirtual 68, 3) := by decide +kernel
theorem dX9_bestSwap_11 : decode bX9_bestSwap 11 = .ok (.iconst (-1), 1) := by decide +kernel
theorem dX9_bestSwap_12 : decode bX9_bestSwap 12 = .ok (.istore_n 1, 1) := by decide +kernel
theorem dX9_bestSwap_13 : decode bX9_bestSwap 13 = .ok (.aload_n 0, 1) := by decide +kernel
theorem dX9_bestSwap_14 : decode bX9_bestSwap 14 = .ok (.invokevirtual 103, 3) := by decide +kernel
theorem dX9_bestSwap_17 : decode bX9_bestSwap 17 = .ok (.istore_n 2, 1) := by decide +kernel
theorem dX9_bestSwap_18 : decode bX9_bestSwap 18 = .ok (.iconst 0, 1) := by decide +kernel
theorem dX9_bestSwap_19 : decode bX9_bestSwap 19 = .ok (.istore_n 3, 1) := by decide +kernel
theorem dX9_bestSwap_20 : decode bX9_bestSwap 20 = .ok (.iload_n 3, 1) := by decide +kernel
theorem dX9_bestSwap_21 : decode bX9_bestSwap 21 = .ok (.aload_n 0, 1) := by decide +kernel
theorem dX9_bestSwap_22 : decode bX9_bestSwap 22 = .ok (.getfield 12, 3) := by decide +kernel
theorem dX9_bestSwap_25 : decode bX9_bestSwap 25 = .ok (.getfield 44, 3) := by decide +kernel
theorem dX9_bestSwap_28 : decode bX9_bestSwap 28 = .ok (.getfield 115, 3) := by decide +kernel
theorem dX9_bestSwap_31 : decode bX9_bestSwap 31 = .ok (.if_icmp .ge 84, 3) := by decide +kernel
theorem dX9_bestSwap_34 : decode bX9_bestSwap 34 = .ok (.iload_n 3, 1) := by decide +kernel
theorem dX9_bestSwap_35 : decode bX9_bestSwap 35 = .ok (.iconst 1, 1) := by decide +kernel
theorem dX9_bestSwap_36 : decode bX9_bestSwap 36 = .ok (.iadd, 1) := by decide +kernel
theorem dX9_bestSwap_37 : decode bX9_bestSwap 37 = .ok (.istore 4, 2) := by decide +kernel
theorem dX9_bestSwap_39 : decode bX9_bestSwap 39 = .ok (.iload 4, 2) := by decide +kernel
theorem dX9_bestSwap_41 : decode bX9_bestSwap 41 = .ok (.aload_n 0, 1) := by decide +kernel
theorem dX9_bestSwap_42 : decode bX9_bestSwap 42 = .ok (.getfield 12, 3) := by decide +kernel
theorem dX9_bestSwap_45 : decode bX9_bestSwap 45 = .ok (.getfield 44, 3) := by decide +kernel
theorem dX9_bestSwap_48 : decode bX9_bestSwap 48 = .ok (.getfield 115, 3) := by decide +kernel
theorem dX9_bestSwap_51 : decode bX9_bestSwap 51 = .ok (.if_icmp .ge 58, 3) := by decide +kernel
theorem dX9_bestSwap_54 : decode bX9_bestSwap 54 = .ok (.aload_n 0, 1) := by decide +kernel
theorem dX9_bestSwap_55 : decode bX9_bestSwap 55 = .ok (.getfield 12, 3) := by decide +kernel
theorem dX9_bestSwap_58 : decode bX9_bestSwap 58 = .ok (.getfield 44, 3) := by decide +kernel
theorem dX9_bestSwap_61 : decode bX9_bestSwap 61 = .ok (.iload_n 3, 1) := by decide +kernel
theorem dX9_bestSwap_62 : decode bX9_bestSwap 62 = .ok (.iload 4, 2) := by decide +kernel
theorem dX9_bestSwap_64 : decode bX9_bestSwap 64 = .ok (.invokevirtual 122, 3) := by decide +kernel
theorem dX9_bestSwap_67 : decode bX9_bestSwap 67 = .ok (.aload_n 0, 1) := by decide +kernel
theorem dX9_bestSwap_68 : decode bX9_bestSwap 68 = .ok (.invokevirtual 103, 3) := by decide +kernel
theorem dX9_bestSwap_71 : decode bX9_bestSwap 71 = .ok (.istore 5, 2) := by decide +kernel
theorem dX9_bestSwap_73 : decode bX9_bestSwap 73 = .ok (.aload_n 0, 1) := by decide +kernel
theorem dX9_bestSwap_74 : decode bX9_bestSwap 74 = .ok (.getfield 12, 3) := by decide +kernel
theorem dX9_bestSwap_77 : decode bX9_bestSwap 77 = .ok (.getfield 44, 3) := by decide +kernel
theorem dX9_bestSwap_80 : decode bX9_bestSwap 80 = .ok (.iload_n 3, 1) := by decide +kernel
theorem dX9_bestSwap_81 : decode bX9_bestSwap 81 = .ok (.iload 4, 2) := by decide +kernel
theorem dX9_bestSwap_83 : decode bX9_bestSwap 83 = .ok (.invokevirtual 122, 3) := by decide +kernel
theorem dX9_bestSwap_86 : decode bX9_bestSwap 86 = .ok (.iload 5, 2) := by decide +kernel
theorem dX9_bestSwap_88 : decode bX9_bestSwap 88 = .ok (.iload_n 2, 1) := by decide +kernel
theorem dX9_bestSwap_89 : decode bX9_bestSwap 89 = .ok (.if_icmp .le 14, 3) := by decide +kernel
theorem dX9_bestSwap_92 : decode bX9_bestSwap 92 = .ok (.iload 5, 2) := by decide +kernel
theorem dX9_bestSwap_94 : decode bX9_bestSwap 94 = .ok (.istore_n 2, 1) := by decide +kernel
theorem dX9_bestSwap_95 : decode bX9_bestSwap 95 = .ok (.bipush 10, 2) := by decide +kernel
theorem dX9_bestSwap_97 : decode bX9_bestSwap 97 = .ok (.iload_n 3, 1) := by decide +kernel
theorem dX9_bestSwap_98 : decode bX9_bestSwap 98 = .ok (.imul, 1) := by decide +kernel
theorem dX9_bestSwap_99 : decode bX9_bestSwap 99 = .ok (.iload 4, 2) := by decide +kernel
theorem dX9_bestSwap_101 : decode bX9_bestSwap 101 = .ok (.iadd, 1) := by decide +kernel
theorem dX9_bestSwap_102 : decode bX9_bestSwap 102 = .ok (.istore_n 1, 1) := by decide +kernel
theorem dX9_bestSwap_103 : decode bX9_bestSwap 103 = .ok (.iinc 4 1, 3) := by decide +kernel
theorem dX9_bestSwap_106 : decode bX9_bestSwap 106 = .ok (.goto (-67), 3) := by decide +kernel
theorem dX9_bestSwap_109 : decode bX9_bestSwap 109 = .ok (.iinc 3 1, 3) := by decide +kernel
theorem dX9_bestSwap_112 : decode bX9_bestSwap 112 = .ok (.goto (-92), 3) := by decide +kernel
theorem dX9_bestSwap_115 : decode bX9_bestSwap 115 = .ok (.iload_n 1, 1) := by decide +kernel
theorem dX9_bestSwap_116 : decode bX9_bestSwap 116 = .ok (.ireturn, 1) := by decide +kernel
theorem dX9_bestSkip_0 : decode bX9_bestSkip 0 = .ok (.aload_n 0, 1) := by decide +kernel
theorem dX9_bestSkip_1 : decode bX9_bestSkip 1 = .ok (.getfield 12, 3) := by decide +kernel
theorem dX9_bestSkip_4 : decode bX9_bestSkip 4 = .ok (.aload_n 0, 1) := by decide +kernel
theorem dX9_bestSkip_5 : decode bX9_bestSkip 5 = .ok (.getfield 32, 3) := by decide +kernel
theorem dX9_bestSkip_8 : decode bX9_bestSkip 8 = .ok (.invokevirtual 68, 3) := by decide +kernel
theorem dX9_bestSkip_11 : decode bX9_bestSkip 11 = .ok (.iconst (-1), 1) := by decide +kernel
theorem dX9_bestSkip_12 : decode bX9_bestSkip 12 = .ok (.istore_n 1, 1) := by decide +kernel
theorem dX9_bestSkip_13 : decode bX9_bestSkip 13 = .ok (.aload_n 0, 1) := by decide +kernel
theorem dX9_bestSkip_14 : decode bX9_bestSkip 14 = .ok (.invokevirtual 103, 3) := by decide +kernel
theorem dX9_bestSkip_17 : decode bX9_bestSkip 17 = .ok (.istore_n 2, 1) := by decide +kernel
theorem dX9_bestSkip_18 : decode bX9_bestSkip 18 = .ok (.iconst 0, 1) := by decide +kernel
theorem dX9_bestSkip_19 : decode bX9_bestSkip 19 = .ok (.istore_n 3, 1) := by decide +kernel
theorem dX9_bestSkip_20 : decode bX9_bestSkip 20 = .ok (.iload_n 3, 1) := by decide +kernel
theorem dX9_bestSkip_21 : decode bX9_bestSkip 21 = .ok (.aload_n 0, 1) := by decide +kernel
theorem dX9_bestSkip_22 : decode bX9_bestSkip 22 = .ok (.getfield 32, 3) := by decide +kernel
theorem dX9_bestSkip_25 : decode bX9_bestSkip 25 = .ok (.getfield 44, 3) := by decide +kernel
theorem dX9_bestSkip_28 : decode bX9_bestSkip 28 = .ok (.getfield 115, 3) := by decide +kernel
theorem dX9_bestSkip_31 : decode bX9_bestSkip 31 = .ok (.if_icmp .ge 45, 3) := by decide +kernel
theorem dX9_bestSkip_34 : decode bX9_bestSkip 34 = .ok (.aload_n 0, 1) := by decide +kernel
theorem dX9_bestSkip_35 : decode bX9_bestSkip 35 = .ok (.getfield 12, 3) := by decide +kernel
theorem dX9_bestSkip_38 : decode bX9_bestSkip 38 = .ok (.aload_n 0, 1) := by decide +kernel
theorem dX9_bestSkip_39 : decode bX9_bestSkip 39 = .ok (.getfield 32, 3) := by decide +kernel
theorem dX9_bestSkip_42 : decode bX9_bestSkip 42 = .ok (.invokevirtual 68, 3) := by decide +kernel
theorem dX9_bestSkip_45 : decode bX9_bestSkip 45 = .ok (.aload_n 0, 1) := by decide +kernel
theorem dX9_bestSkip_46 : decode bX9_bestSkip 46 = .ok (.getfield 12, 3) := by decide +kernel
theorem dX9_bestSkip_49 : decode bX9_bestSkip 49 = .ok (.iload_n 3, 1) := by decide +kernel
theorem dX9_bestSkip_50 : decode bX9_bestSkip 50 = .ok (.invokevirtual 126, 3) := by decide +kernel
theorem dX9_bestSkip_53 : decode bX9_bestSkip 53 = .ok (.aload_n 0, 1) := by decide +kernel
theorem dX9_bestSkip_54 : decode bX9_bestSkip 54 = .ok (.invokevirtual 103, 3) := by decide +kernel
theorem dX9_bestSkip_57 : decode bX9_bestSkip 57 = .ok (.istore 4, 2) := by decide +kernel
theorem dX9_bestSkip_59 : decode bX9_bestSkip 59 = .ok (.iload 4, 2) := by decide +kernel
theorem dX9_bestSkip_61 : decode bX9_bestSkip 61 = .ok (.iload_n 2, 1) := by decide +kernel
theorem dX9_bestSkip_62 : decode bX9_bestSkip 62 = .ok (.if_icmp .le 8, 3) := by decide +kernel
theorem dX9_bestSkip_65 : decode bX9_bestSkip 65 = .ok (.iload 4, 2) := by decide +kernel
theorem dX9_bestSkip_67 : decode bX9_bestSkip 67 = .ok (.istore_n 2, 1) := by decide +kernel
theorem dX9_bestSkip_68 : decode bX9_bestSkip 68 = .ok (.iload_n 3, 1) := by decide +kernel
theorem dX9_bestSkip_69 : decode bX9_bestSkip 69 = .ok (.istore_n 1, 1) := by decide +kernel
theorem dX9_bestSkip_70 : decode bX9_bestSkip 70 = .ok (.iinc 3 1, 3) := by decide +kernel
theorem dX9_bestSkip_73 : decode bX9_bestSkip 73 = .ok (.goto (-53), 3) := by decide +kernel
theorem dX9_bestSkip_76 : decode bX9_bestSkip 76 = .ok (.iload_n 1, 1) := by decide +kernel
theorem dX9_bestSkip_77 : decode bX9_bestSkip 77 = .ok (.ireturn, 1) := by decide +kernel
theorem dX9_agrees_0 : decode bX9_agrees 0 = .ok (.aload_n 0, 1) := by decide +kernel
theorem dX9_agrees_1 : decode bX9_agrees 1 = .ok (.getfield 40, 3) := by decide +kernel
theorem dX9_agrees_4 : decode bX9_agrees 4 = .ok (.iconst 0, 1) := by decide +kernel
theorem dX9_agrees_5 : decode bX9_agrees 5 = .ok (.aload_n 1, 1) := by decide +kernel
theorem dX9_agrees_6 : decode bX9_agrees 6 = .ok (.invokevirtual 130, 3) := by decide +kernel
theorem dX9_agrees_9 : decode bX9_agrees 9 = .ok (.aload_n 1, 1) := by decide +kernel
theorem dX9_agrees_10 : decode bX9_agrees 10 = .ok (.invokevirtual 135, 3) := by decide +kernel
theorem dX9_agrees_13 : decode bX9_agrees 13 = .ok (.invokevirtual 54, 3) := by decide +kernel
theorem dX9_agrees_16 : decode bX9_agrees 16 = .ok (.aload_n 1, 1) := by decide +kernel
theorem dX9_agrees_17 : decode bX9_agrees 17 = .ok (.aload_n 0, 1) := by decide +kernel
theorem dX9_agrees_18 : decode bX9_agrees 18 = .ok (.getfield 40, 3) := by decide +kernel
theorem dX9_agrees_21 : decode bX9_agrees 21 = .ok (.invokevirtual 138, 3) := by decide +kernel
theorem dX9_agrees_24 : decode bX9_agrees 24 = .ok (.ireturn, 1) := by decide +kernel
theorem dX9_agreesByAir_0 : decode bX9_agreesByAir 0 = .ok (.aload_n 0, 1) := by decide +kernel
theorem dX9_agreesByAir_1 : decode bX9_agreesByAir 1 = .ok (.getfield 12, 3) := by decide +kernel
theorem dX9_agreesByAir_4 : decode bX9_agreesByAir 4 = .ok (.getfield 44, 3) := by decide +kernel
theorem dX9_agreesByAir_7 : decode bX9_agreesByAir 7 = .ok (.iload_n 2, 1) := by decide +kernel
theorem dX9_agreesByAir_8 : decode bX9_agreesByAir 8 = .ok (.invokevirtual 109, 3) := by decide +kernel
theorem dX9_agreesByAir_11 : decode bX9_agreesByAir 11 = .ok (.ifCond .ne 5, 3) := by decide +kernel
theorem dX9_agreesByAir_14 : decode bX9_agreesByAir 14 = .ok (.iconst 0, 1) := by decide +kernel
theorem dX9_agreesByAir_15 : decode bX9_agreesByAir 15 = .ok (.ireturn, 1) := by decide +kernel
theorem dX9_agreesByAir_16 : decode bX9_agreesByAir 16 = .ok (.aload_n 0, 1) := by decide +kernel
theorem dX9_agreesByAir_17 : decode bX9_agreesByAir 17 = .ok (.getfield 12, 3) := by decide +kernel
theorem dX9_agreesByAir_20 : decode bX9_agreesByAir 20 = .ok (.getfield 44, 3) := by decide +kernel
theorem dX9_agreesByAir_23 : decode bX9_agreesByAir 23 = .ok (.getfield 112, 3) := by decide +kernel
theorem dX9_agreesByAir_26 : decode bX9_agreesByAir 26 = .ok (.iload_n 2, 1) := by decide +kernel
theorem dX9_agreesByAir_27 : decode bX9_agreesByAir 27 = .ok (.iload_n 3, 1) := by decide +kernel
theorem dX9_agreesByAir_28 : decode bX9_agreesByAir 28 = .ok (.iastore, 1) := by decide +kernel
theorem dX9_agreesByAir_29 : decode bX9_agreesByAir 29 = .ok (.aload_n 0, 1) := by decide +kernel
theorem dX9_agreesByAir_30 : decode bX9_agreesByAir 30 = .ok (.aload_n 1, 1) := by decide +kernel
theorem dX9_agreesByAir_31 : decode bX9_agreesByAir 31 = .ok (.invokevirtual 142, 3) := by decide +kernel
theorem dX9_agreesByAir_34 : decode bX9_agreesByAir 34 = .ok (.ireturn, 1) := by decide +kernel
theorem dX9_countOfAirs_0 : decode bX9_countOfAirs 0 = .ok (.aload_n 0, 1) := by decide +kernel
theorem dX9_countOfAirs_1 : decode bX9_countOfAirs 1 = .ok (.getfield 12, 3) := by decide +kernel
theorem dX9_countOfAirs_4 : decode bX9_countOfAirs 4 = .ok (.aload_n 0, 1) := by decide +kernel
theorem dX9_countOfAirs_5 : decode bX9_countOfAirs 5 = .ok (.getfield 32, 3) := by decide +kernel
theorem dX9_countOfAirs_8 : decode bX9_countOfAirs 8 = .ok (.invokevirtual 68, 3) := by decide +kernel
theorem dX9_countOfAirs_11 : decode bX9_countOfAirs 11 = .ok (.iconst 0, 1) := by decide +kernel
theorem dX9_countOfAirs_12 : decode bX9_countOfAirs 12 = .ok (.istore_n 3, 1) := by decide +kernel
theorem dX9_countOfAirs_13 : decode bX9_countOfAirs 13 = .ok (.iconst 0, 1) := by decide +kernel
theorem dX9_countOfAirs_14 : decode bX9_countOfAirs 14 = .ok (.istore 4, 2) := by decide +kernel
theorem dX9_countOfAirs_16 : decode bX9_countOfAirs 16 = .ok (.iload 4, 2) := by decide +kernel
theorem dX9_countOfAirs_18 : decode bX9_countOfAirs 18 = .ok (.sipush 600, 3) := by decide +kernel
theorem dX9_countOfAirs_21 : decode bX9_countOfAirs 21 = .ok (.if_icmp .gt 23, 3) := by decide +kernel
theorem dX9_countOfAirs_24 : decode bX9_countOfAirs 24 = .ok (.aload_n 0, 1) := by decide +kernel
theorem dX9_countOfAirs_25 : decode bX9_countOfAirs 25 = .ok (.aload_n 1, 1) := by decide +kernel
theorem dX9_countOfAirs_26 : decode bX9_countOfAirs 26 = .ok (.iload_n 2, 1) := by decide +kernel
theorem dX9_countOfAirs_27 : decode bX9_countOfAirs 27 = .ok (.iload 4, 2) := by decide +kernel
theorem dX9_countOfAirs_29 : decode bX9_countOfAirs 29 = .ok (.invokevirtual 146, 3) := by decide +kernel
theorem dX9_countOfAirs_32 : decode bX9_countOfAirs 32 = .ok (.ifCond .eq 6, 3) := by decide +kernel
theorem dX9_countOfAirs_35 : decode bX9_countOfAirs 35 = .ok (.iinc 3 1, 3) := by decide +kernel
theorem dX9_countOfAirs_38 : decode bX9_countOfAirs 38 = .ok (.iinc 4 1, 3) := by decide +kernel
theorem dX9_countOfAirs_41 : decode bX9_countOfAirs 41 = .ok (.goto (-25), 3) := by decide +kernel
theorem dX9_countOfAirs_44 : decode bX9_countOfAirs 44 = .ok (.iload_n 3, 1) := by decide +kernel
theorem dX9_countOfAirs_45 : decode bX9_countOfAirs 45 = .ok (.ireturn, 1) := by decide +kernel
theorem dX9_lowestAir_0 : decode bX9_lowestAir 0 = .ok (.aload_n 0, 1) := by decide +kernel
theorem dX9_lowestAir_1 : decode bX9_lowestAir 1 = .ok (.getfield 12, 3) := by decide +kernel
theorem dX9_lowestAir_4 : decode bX9_lowestAir 4 = .ok (.aload_n 0, 1) := by decide +kernel
theorem dX9_lowestAir_5 : decode bX9_lowestAir 5 = .ok (.getfield 32, 3) := by decide +kernel
theorem dX9_lowestAir_8 : decode bX9_lowestAir 8 = .ok (.invokevirtual 68, 3) := by decide +kernel
theorem dX9_lowestAir_11 : decode bX9_lowestAir 11 = .ok (.iconst 0, 1) := by decide +kernel
theorem dX9_lowestAir_12 : decode bX9_lowestAir 12 = .ok (.istore_n 3, 1) := by decide +kernel
theorem dX9_lowestAir_13 : decode bX9_lowestAir 13 = .ok (.iload_n 3, 1) := by decide +kernel
theorem dX9_lowestAir_14 : decode bX9_lowestAir 14 = .ok (.sipush 600, 3) := by decide +kernel
theorem dX9_lowestAir_17 : decode bX9_lowestAir 17 = .ok (.if_icmp .gt 21, 3) := by decide +kernel
theorem dX9_lowestAir_20 : decode bX9_lowestAir 20 = .ok (.aload_n 0, 1) := by decide +kernel
theorem dX9_lowestAir_21 : decode bX9_lowestAir 21 = .ok (.aload_n 1, 1) := by decide +kernel
theorem dX9_lowestAir_22 : decode bX9_lowestAir 22 = .ok (.iload_n 2, 1) := by decide +kernel
theorem dX9_lowestAir_23 : decode bX9_lowestAir 23 = .ok (.iload_n 3, 1) := by decide +kernel
theorem dX9_lowestAir_24 : decode bX9_lowestAir 24 = .ok (.invokevirtual 146, 3) := by decide +kernel
theorem dX9_lowestAir_27 : decode bX9_lowestAir 27 = .ok (.ifCond .eq 5, 3) := by decide +kernel
theorem dX9_lowestAir_30 : decode bX9_lowestAir 30 = .ok (.iload_n 3, 1) := by decide +kernel
theorem dX9_lowestAir_31 : decode bX9_lowestAir 31 = .ok (.ireturn, 1) := by decide +kernel
theorem dX9_lowestAir_32 : decode bX9_lowestAir 32 = .ok (.iinc 3 1, 3) := by decide +kernel
theorem dX9_lowestAir_35 : decode bX9_lowestAir 35 = .ok (.goto (-22), 3) := by decide +kernel
theorem dX9_lowestAir_38 : decode bX9_lowestAir 38 = .ok (.iconst (-1), 1) := by decide +kernel
theorem dX9_lowestAir_39 : decode bX9_lowestAir 39 = .ok (.ireturn, 1) := by decide +kernel
theorem dX9_highestAir_0 : decode bX9_highestAir 0 = .ok (.aload_n 0, 1) := by decide +kernel
theorem dX9_highestAir_1 : decode bX9_highestAir 1 = .ok (.getfield 12, 3) := by decide +kernel
theorem dX9_highestAir_4 : decode bX9_highestAir 4 = .ok (.aload_n 0, 1) := by decide +kernel
theorem dX9_highestAir_5 : decode bX9_highestAir 5 = .ok (.getfield 32, 3) := by decide +kernel
theorem dX9_highestAir_8 : decode bX9_highestAir 8 = .ok (.invokevirtual 68, 3) := by decide +kernel
theorem dX9_highestAir_11 : decode bX9_highestAir 11 = .ok (.sipush 600, 3) := by decide +kernel
theorem dX9_highestAir_14 : decode bX9_highestAir 14 = .ok (.istore_n 3, 1) := by decide +kernel
theorem dX9_highestAir_15 : decode bX9_highestAir 15 = .ok (.iload_n 3, 1) := by decide +kernel
theorem dX9_highestAir_16 : decode bX9_highestAir 16 = .ok (.ifCond .lt 21, 3) := by decide +kernel
theorem dX9_highestAir_19 : decode bX9_highestAir 19 = .ok (.aload_n 0, 1) := by decide +kernel
theorem dX9_highestAir_20 : decode bX9_highestAir 20 = .ok (.aload_n 1, 1) := by decide +kernel
theorem dX9_highestAir_21 : decode bX9_highestAir 21 = .ok (.iload_n 2, 1) := by decide +kernel
theorem dX9_highestAir_22 : decode bX9_highestAir 22 = .ok (.iload_n 3, 1) := by decide +kernel
theorem dX9_highestAir_23 : decode bX9_highestAir 23 = .ok (.invokevirtual 146, 3) := by decide +kernel
theorem dX9_highestAir_26 : decode bX9_highestAir 26 = .ok (.ifCond .eq 5, 3) := by decide +kernel
theorem dX9_highestAir_29 : decode bX9_highestAir 29 = .ok (.iload_n 3, 1) := by decide +kernel
theorem dX9_highestAir_30 : decode bX9_highestAir 30 = .ok (.ireturn, 1) := by decide +kernel
theorem dX9_highestAir_31 : decode bX9_highestAir 31 = .ok (.iinc 3 (-1), 3) := by decide +kernel
theorem dX9_highestAir_34 : decode bX9_highestAir 34 = .ok (.goto (-19), 3) := by decide +kernel
theorem dX9_highestAir_37 : decode bX9_highestAir 37 = .ok (.iconst (-1), 1) := by decide +kernel
theorem dX9_highestAir_38 : decode bX9_highestAir 38 = .ok (.ireturn, 1) := by decide +kernel
theorem dX9_thicksSeen_0 : decode bX9_thicksSeen 0 = .ok (.aload_n 0, 1) := by decide +kernel
theorem dX9_thicksSeen_1 : decode bX9_thicksSeen 1 = .ok (.getfield 12, 3) := by decide +kernel
theorem dX9_thicksSeen_4 : decode bX9_thicksSeen 4 = .ok (.aload_n 0, 1) := by decide +kernel
theorem dX9_thicksSeen_5 : decode bX9_thicksSeen 5 = .ok (.getfield 32, 3) := by decide +kernel
theorem dX9_thicksSeen_8 : decode bX9_thicksSeen 8 = .ok (.invokevirtual 68, 3) := by decide +kernel
theorem dX9_thicksSeen_11 : decode bX9_thicksSeen 11 = .ok (.aload_n 0, 1) := by decide +kernel
theorem dX9_thicksSeen_12 : decode bX9_thicksSeen 12 = .ok (.getfield 12, 3) := by decide +kernel
theorem dX9_thicksSeen_15 : decode bX9_thicksSeen 15 = .ok (.getfield 44, 3) := by decide +kernel
theorem dX9_thicksSeen_18 : decode bX9_thicksSeen 18 = .ok (.iload_n 2, 1) := by decide +kernel
theorem dX9_thicksSeen_19 : decode bX9_thicksSeen 19 = .ok (.invokevirtual 71, 3) := by decide +kernel
theorem dX9_thicksSeen_22 : decode bX9_thicksSeen 22 = .ok (.ifCond .ne 5, 3) := by decide +kernel
theorem dX9_thicksSeen_25 : decode bX9_thicksSeen 25 = .ok (.iconst 0, 1) := by decide +kernel
theorem dX9_thicksSeen_26 : decode bX9_thicksSeen 26 = .ok (.ireturn, 1) := by decide +kernel
theorem dX9_thicksSeen_27 : decode bX9_thicksSeen 27 = .ok (.iconst 0, 1) := by decide +kernel
theorem dX9_thicksSeen_28 : decode bX9_thicksSeen 28 = .ok (.istore_n 3, 1) := by decide +kernel
theorem dX9_thicksSeen_29 : decode bX9_thicksSeen 29 = .ok (.iconst 1, 1) := by decide +kernel
theorem dX9_thicksSeen_30 : decode bX9_thicksSeen 30 = .ok (.istore 4, 2) := by decide +kernel
theorem dX9_thicksSeen_32 : decode bX9_thicksSeen 32 = .ok (.iload 4, 2) := by decide +kernel
theorem dX9_thicksSeen_34 : decode bX9_thicksSeen 34 = .ok (.bipush 9, 2) := by decide +kernel
theorem dX9_thicksSeen_36 : decode bX9_thicksSeen 36 = .ok (.if_icmp .gt 38, 3) := by decide +kernel
theorem dX9_thicksSeen_39 : decode bX9_thicksSeen 39 = .ok (.aload_n 0, 1) := by decide +kernel
theorem dX9_thicksSeen_40 : decode bX9_thicksSeen 40 = .ok (.getfield 12, 3) := by decide +kernel
theorem dX9_thicksSeen_43 : decode bX9_thicksSeen 43 = .ok (.getfield 44, 3) := by decide +kernel
theorem dX9_thicksSeen_46 : decode bX9_thicksSeen 46 = .ok (.getfield 94, 3) := by decide +kernel
theorem dX9_thicksSeen_49 : decode bX9_thicksSeen 49 = .ok (.iload_n 2, 1) := by decide +kernel
theorem dX9_thicksSeen_50 : decode bX9_thicksSeen 50 = .ok (.iload 4, 2) := by decide +kernel
theorem dX9_thicksSeen_52 : decode bX9_thicksSeen 52 = .ok (.iastore, 1) := by decide +kernel
theorem dX9_thicksSeen_53 : decode bX9_thicksSeen 53 = .ok (.aload_n 0, 1) := by decide +kernel
theorem dX9_thicksSeen_54 : decode bX9_thicksSeen 54 = .ok (.aload_n 1, 1) := by decide +kernel
theorem dX9_thicksSeen_55 : decode bX9_thicksSeen 55 = .ok (.invokevirtual 142, 3) := by decide +kernel
theorem dX9_thicksSeen_58 : decode bX9_thicksSeen 58 = .ok (.ifCond .eq 10, 3) := by decide +kernel
theorem dX9_thicksSeen_61 : decode bX9_thicksSeen 61 = .ok (.iload_n 3, 1) := by decide +kernel
theorem dX9_thicksSeen_62 : decode bX9_thicksSeen 62 = .ok (.iconst 1, 1) := by decide +kernel
theorem dX9_thicksSeen_63 : decode bX9_thicksSeen 63 = .ok (.iload 4, 2) := by decide +kernel
theorem dX9_thicksSeen_65 : decode bX9_thicksSeen 65 = .ok (.ishl, 1) := by decide +kernel
theorem dX9_thicksSeen_66 : decode bX9_thicksSeen 66 = .ok (.ior, 1) := by decide +kernel
theorem dX9_thicksSeen_67 : decode bX9_thicksSeen 67 = .ok (.istore_n 3, 1) := by decide +kernel
theorem dX9_thicksSeen_68 : decode bX9_thicksSeen 68 = .ok (.iinc 4 1, 3) := by decide +kernel
theorem dX9_thicksSeen_71 : decode bX9_thicksSeen 71 = .ok (.goto (-39), 3) := by decide +kernel
theorem dX9_thicksSeen_74 : decode bX9_thicksSeen 74 = .ok (.iload_n 3, 1) := by decide +kernel
theorem dX9_thicksSeen_75 : decode bX9_thicksSeen 75 = .ok (.ireturn, 1) := by decide +kernel
theorem dX9_lawsSeen_0 : decode bX9_lawsSeen 0 = .ok (.aload_n 0, 1) := by decide +kernel
theorem dX9_lawsSeen_1 : decode bX9_lawsSeen 1 = .ok (.getfield 12, 3) := by decide +kernel
theorem dX9_lawsSeen_4 : decode bX9_lawsSeen 4 = .ok (.aload_n 0, 1) := by decide +kernel
theorem dX9_lawsSeen_5 : decode bX9_lawsSeen 5 = .ok (.getfield 32, 3) := by decide +kernel
theorem dX9_lawsSeen_8 : decode bX9_lawsSeen 8 = .ok (.invokevirtual 68, 3) := by decide +kernel
theorem dX9_lawsSeen_11 : decode bX9_lawsSeen 11 = .ok (.iconst 0, 1) := by decide +kernel
theorem dX9_lawsSeen_12 : decode bX9_lawsSeen 12 = .ok (.istore_n 2, 1) := by decide +kernel
theorem dX9_lawsSeen_13 : decode bX9_lawsSeen 13 = .ok (.iconst 0, 1) := by decide +kernel
theorem dX9_lawsSeen_14 : decode bX9_lawsSeen 14 = .ok (.istore_n 3, 1) := by decide +kernel
theorem dX9_lawsSeen_15 : decode bX9_lawsSeen 15 = .ok (.iload_n 3, 1) := by decide +kernel
theorem dX9_lawsSeen_16 : decode bX9_lawsSeen 16 = .ok (.iconst 4, 1) := by decide +kernel
theorem dX9_lawsSeen_17 : decode bX9_lawsSeen 17 = .ok (.if_icmp .ge 34, 3) := by decide +kernel
theorem dX9_lawsSeen_20 : decode bX9_lawsSeen 20 = .ok (.aload_n 0, 1) := by decide +kernel
theorem dX9_lawsSeen_21 : decode bX9_lawsSeen 21 = .ok (.getfield 12, 3) := by decide +kernel
theorem dX9_lawsSeen_24 : decode bX9_lawsSeen 24 = .ok (.getfield 44, 3) := by decide +kernel
theorem dX9_lawsSeen_27 : decode bX9_lawsSeen 27 = .ok (.iload_n 3, 1) := by decide +kernel
theorem dX9_lawsSeen_28 : decode bX9_lawsSeen 28 = .ok (.putfield 150, 3) := by decide +kernel
theorem dX9_lawsSeen_31 : decode bX9_lawsSeen 31 = .ok (.aload_n 0, 1) := by decide +kernel
theorem dX9_lawsSeen_32 : decode bX9_lawsSeen 32 = .ok (.aload_n 1, 1) := by decide +kernel
theorem dX9_lawsSeen_33 : decode bX9_lawsSeen 33 = .ok (.invokevirtual 142, 3) := by decide +kernel
theorem dX9_lawsSeen_36 : decode bX9_lawsSeen 36 = .ok (.ifCond .eq 9, 3) := by decide +kernel
theorem dX9_lawsSeen_39 : decode bX9_lawsSeen 39 = .ok (.iload_n 2, 1) := by decide +kernel
theorem dX9_lawsSeen_40 : decode bX9_lawsSeen 40 = .ok (.iconst 1, 1) := by decide +kernel
theorem dX9_lawsSeen_41 : decode bX9_lawsSeen 41 = .ok (.iload_n 3, 1) := by decide +kernel
theorem dX9_lawsSeen_42 : decode bX9_lawsSeen 42 = .ok (.ishl, 1) := by decide +kernel
theorem dX9_lawsSeen_43 : decode bX9_lawsSeen 43 = .ok (.ior, 1) := by decide +kernel
theorem dX9_lawsSeen_44 : decode bX9_lawsSeen 44 = .ok (.istore_n 2, 1) := by decide +kernel
theorem dX9_lawsSeen_45 : decode bX9_lawsSeen 45 = .ok (.iinc 3 1, 3) := by decide +kernel
theorem dX9_lawsSeen_48 : decode bX9_lawsSeen 48 = .ok (.goto (-33), 3) := by decide +kernel
theorem dX9_lawsSeen_51 : decode bX9_lawsSeen 51 = .ok (.iload_n 2, 1) := by decide +kernel
theorem dX9_lawsSeen_52 : decode bX9_lawsSeen 52 = .ok (.ireturn, 1) := by decide +kernel
theorem dX9_soundBitsByLaw_0 : decode bX9_soundBitsByLaw 0 = .ok (.aload_n 0, 1) := by decide +kernel
theorem dX9_soundBitsByLaw_1 : decode bX9_soundBitsByLaw 1 = .ok (.getfield 12, 3) := by decide +kernel
theorem dX9_soundBitsByLaw_4 : decode bX9_soundBitsByLaw 4 = .ok (.aload_n 0, 1) := by decide +kernel
theorem dX9_soundBitsByLaw_5 : decode bX9_soundBitsByLaw 5 = .ok (.getfield 32, 3) := by decide +kernel
theorem dX9_soundBitsByLaw_8 : decode bX9_soundBitsByLaw 8 = .ok (.invokevirtual 68, 3) := by decide +kernel
theorem dX9_soundBitsByLaw_11 : decode bX9_soundBitsByLaw 11 = .ok (.aload_n 0, 1) := by decide +kernel
theorem dX9_soundBitsByLaw_12 : decode bX9_soundBitsByLaw 12 = .ok (.getfield 12, 3) := by decide +kernel
theorem dX9_soundBitsByLaw_15 : decode bX9_soundBitsByLaw 15 = .ok (.getfield 44, 3) := by decide +kernel
theorem dX9_soundBitsByLaw_18 : decode bX9_soundBitsByLaw 18 = .ok (.iload_n 1, 1) := by decide +kernel
theorem dX9_soundBitsByLaw_19 : decode bX9_soundBitsByLaw 19 = .ok (.putfield 150, 3) := by decide +kernel
theorem dX9_soundBitsByLaw_22 : decode bX9_soundBitsByLaw 22 = .ok (.aload_n 0, 1) := by decide +kernel
theorem dX9_soundBitsByLaw_23 : decode bX9_soundBitsByLaw 23 = .ok (.invokevirtual 153, 3) := by decide +kernel
theorem dX9_soundBitsByLaw_26 : decode bX9_soundBitsByLaw 26 = .ok (.ireturn, 1) := by decide +kernel
theorem dX9_bestLaw_0 : decode bX9_bestLaw 0 = .ok (.iconst 0, 1) := by decide +kernel
theorem dX9_bestLaw_1 : decode bX9_bestLaw 1 = .ok (.istore_n 1, 1) := by decide +kernel
theorem dX9_bestLaw_2 : decode bX9_bestLaw 2 = .ok (.aload_n 0, 1) := by decide +kernel
theorem dX9_bestLaw_3 : decode bX9_bestLaw 3 = .ok (.iconst 0, 1) := by decide +kernel
theorem dX9_bestLaw_4 : decode bX9_bestLaw 4 = .ok (.invokevirtual 156, 3) := by decide +kernel
theorem dX9_bestLaw_7 : decode bX9_bestLaw 7 = .ok (.invokestatic 62, 3) := by decide +kernel
theorem dX9_bestLaw_10 : decode bX9_bestLaw 10 = .ok (.istore_n 2, 1) := by decide +kernel
theorem dX9_bestLaw_11 : decode bX9_bestLaw 11 = .ok (.iconst 1, 1) := by decide +kernel
theorem dX9_bestLaw_12 : decode bX9_bestLaw 12 = .ok (.istore_n 3, 1) := by decide +kernel
theorem dX9_bestLaw_13 : decode bX9_bestLaw 13 = .ok (.iload_n 3, 1) := by decide +kernel
theorem dX9_bestLaw_14 : decode bX9_bestLaw 14 = .ok (.iconst 4, 1) := by decide +kernel
theorem dX9_bestLaw_15 : decode bX9_bestLaw 15 = .ok (.if_icmp .ge 30, 3) := by decide +kernel
theorem dX9_bestLaw_18 : decode bX9_bestLaw 18 = .ok (.aload_n 0, 1) := by decide +kernel
theorem dX9_bestLaw_19 : decode bX9_bestLaw 19 = .ok (.iload_n 3, 1) := by decide +kernel
theorem dX9_bestLaw_20 : decode bX9_bestLaw 20 = .ok (.invokevirtual 156, 3) := by decide +kernel
theorem dX9_bestLaw_23 : decode bX9_bestLaw 23 = .ok (.invokestatic 62, 3) := by decide +kernel
theorem dX9_bestLaw_26 : decode bX9_bestLaw 26 = .ok (.istore 4, 2) := by decide +kernel
theorem dX9_bestLaw_28 : decode bX9_bestLaw 28 = .ok (.iload 4, 2) := by decide +kernel
theorem dX9_bestLaw_30 : decode bX9_bestLaw 30 = .ok (.iload_n 2, 1) := by decide +kernel
theorem dX9_bestLaw_31 : decode bX9_bestLaw 31 = .ok (.if_icmp .le 8, 3) := by decide +kernel
theorem dX9_bestLaw_34 : decode bX9_bestLaw 34 = .ok (.iload 4, 2) := by decide +kernel
theorem dX9_bestLaw_36 : decode bX9_bestLaw 36 = .ok (.istore_n 2, 1) := by decide +kernel
theorem dX9_bestLaw_37 : decode bX9_bestLaw 37 = .ok (.iload_n 3, 1) := by decide +kernel
theorem dX9_bestLaw_38 : decode bX9_bestLaw 38 = .ok (.istore_n 1, 1) := by decide +kernel
theorem dX9_bestLaw_39 : decode bX9_bestLaw 39 = .ok (.iinc 3 1, 3) := by decide +kernel
theorem dX9_bestLaw_42 : decode bX9_bestLaw 42 = .ok (.goto (-29), 3) := by decide +kernel
theorem dX9_bestLaw_45 : decode bX9_bestLaw 45 = .ok (.iload_n 1, 1) := by decide +kernel
theorem dX9_bestLaw_46 : decode bX9_bestLaw 46 = .ok (.ireturn, 1) := by decide +kernel
theorem dX9_worthOf_0 : decode bX9_worthOf 0 = .ok (.aload_n 0, 1) := by decide +kernel
theorem dX9_worthOf_1 : decode bX9_worthOf 1 = .ok (.getfield 12, 3) := by decide +kernel
theorem dX9_worthOf_4 : decode bX9_worthOf 4 = .ok (.aload_n 0, 1) := by decide +kernel
theorem dX9_worthOf_5 : decode bX9_worthOf 5 = .ok (.getfield 32, 3) := by decide +kernel
theorem dX9_worthOf_8 : decode bX9_worthOf 8 = .ok (.invokevirtual 68, 3) := by decide +kernel
theorem dX9_worthOf_11 : decode bX9_worthOf 11 = .ok (.iconst 0, 1) := by decide +kernel
theorem dX9_worthOf_12 : decode bX9_worthOf 12 = .ok (.istore_n 2, 1) := by decide +kernel
theorem dX9_worthOf_13 : decode bX9_worthOf 13 = .ok (.iload_n 2, 1) := by decide +kernel
theorem dX9_worthOf_14 : decode bX9_worthOf 14 = .ok (.aload_n 0, 1) := by decide +kernel
theorem dX9_worthOf_15 : decode bX9_worthOf 15 = .ok (.getfield 12, 3) := by decide +kernel
theorem dX9_worthOf_18 : decode bX9_worthOf 18 = .ok (.getfield 44, 3) := by decide +kernel
theorem dX9_worthOf_21 : decode bX9_worthOf 21 = .ok (.getfield 115, 3) := by decide +kernel
theorem dX9_worthOf_24 : decode bX9_worthOf 24 = .ok (.if_icmp .ge 30, 3) := by decide +kernel
theorem dX9_worthOf_27 : decode bX9_worthOf 27 = .ok (.iload_n 1, 1) := by decide +kernel
theorem dX9_worthOf_28 : decode bX9_worthOf 28 = .ok (.iload_n 2, 1) := by decide +kernel
theorem dX9_worthOf_29 : decode bX9_worthOf 29 = .ok (.ishr, 1) := by decide +kernel
theorem dX9_worthOf_30 : decode bX9_worthOf 30 = .ok (.iconst 1, 1) := by decide +kernel
theorem dX9_worthOf_31 : decode bX9_worthOf 31 = .ok (.iand, 1) := by decide +kernel
theorem dX9_worthOf_32 : decode bX9_worthOf 32 = .ok (.ifCond .ne 16, 3) := by decide +kernel
theorem dX9_worthOf_35 : decode bX9_worthOf 35 = .ok (.aload_n 0, 1) := by decide +kernel
theorem dX9_worthOf_36 : decode bX9_worthOf 36 = .ok (.getfield 12, 3) := by decide +kernel
theorem dX9_worthOf_39 : decode bX9_worthOf 39 = .ok (.getfield 44, 3) := by decide +kernel
theorem dX9_worthOf_42 : decode bX9_worthOf 42 = .ok (.getfield 112, 3) := by decide +kernel
theorem dX9_worthOf_45 : decode bX9_worthOf 45 = .ok (.iload_n 2, 1) := by decide +kernel
theorem dX9_worthOf_46 : decode bX9_worthOf 46 = .ok (.iconst 0, 1) := by decide +kernel
theorem dX9_worthOf_47 : decode bX9_worthOf 47 = .ok (.iastore, 1) := by decide +kernel
theorem dX9_worthOf_48 : decode bX9_worthOf 48 = .ok (.iinc 2 1, 3) := by decide +kernel
theorem dX9_worthOf_51 : decode bX9_worthOf 51 = .ok (.goto (-38), 3) := by decide +kernel
theorem dX9_worthOf_54 : decode bX9_worthOf 54 = .ok (.aload_n 0, 1) := by decide +kernel
theorem dX9_worthOf_55 : decode bX9_worthOf 55 = .ok (.invokevirtual 103, 3) := by decide +kernel
theorem dX9_worthOf_58 : decode bX9_worthOf 58 = .ok (.ireturn, 1) := by decide +kernel
theorem dX9_shareOf_0 : decode bX9_shareOf 0 = .ok (.aload_n 0, 1) := by decide +kernel
theorem dX9_shareOf_1 : decode bX9_shareOf 1 = .ok (.getfield 32, 3) := by decide +kernel
theorem dX9_shareOf_4 : decode bX9_shareOf 4 = .ok (.getfield 44, 3) := by decide +kernel
theorem dX9_shareOf_7 : decode bX9_shareOf 7 = .ok (.getfield 115, 3) := by decide +kernel
theorem dX9_shareOf_10 : decode bX9_shareOf 10 = .ok (.istore_n 2, 1) := by decide +kernel
theorem dX9_shareOf_11 : decode bX9_shareOf 11 = .ok (.iconst 1, 1) := by decide +kernel
theorem dX9_shareOf_12 : decode bX9_shareOf 12 = .ok (.iload_n 2, 1) := by decide +kernel
theorem dX9_shareOf_13 : decode bX9_shareOf 13 = .ok (.ishl, 1) := by decide +kernel
theorem dX9_shareOf_14 : decode bX9_shareOf 14 = .ok (.aload_n 0, 1) := by decide +kernel
theorem dX9_shareOf_15 : decode bX9_shareOf 15 = .ok (.getfield 25, 3) := by decide +kernel
theorem dX9_shareOf_18 : decode bX9_shareOf 18 = .ok (.arraylength, 1) := by decide +kernel
theorem dX9_shareOf_19 : decode bX9_shareOf 19 = .ok (.invokestatic 159, 3) := by decide +kernel
theorem dX9_shareOf_22 : decode bX9_shareOf 22 = .ok (.istore_n 3, 1) := by decide +kernel
theorem dX9_shareOf_23 : decode bX9_shareOf 23 = .ok (.iconst 0, 1) := by decide +kernel
theorem dX9_shareOf_24 : decode bX9_shareOf 24 = .ok (.istore 4, 2) := by decide +kernel
theorem dX9_shareOf_26 : decode bX9_shareOf 26 = .ok (.iload 4, 2) := by decide +kernel
theorem dX9_shareOf_28 : decode bX9_shareOf 28 = .ok (.iload_n 3, 1) := by decide +kernel
theorem dX9_shareOf_29 : decode bX9_shareOf 29 = .ok (.if_icmp .ge 22, 3) := by decide +kernel
theorem dX9_shareOf_32 : decode bX9_shareOf 32 = .ok (.aload_n 0, 1) := by decide +kernel
theorem dX9_shareOf_33 : decode bX9_shareOf 33 = .ok (.getfield 25, 3) := by decide +kernel
theorem dX9_shareOf_36 : decode bX9_shareOf 36 = .ok (.iload 4, 2) := by decide +kernel
theorem dX9_shareOf_38 : decode bX9_shareOf 38 = .ok (.aload_n 0, 1) := by decide +kernel
theorem dX9_shareOf_39 : decode bX9_shareOf 39 = .ok (.iload 4, 2) := by decide +kernel
theorem dX9_shareOf_41 : decode bX9_shareOf 41 = .ok (.invokevirtual 162, 3) := by decide +kernel
theorem dX9_shareOf_44 : decode bX9_shareOf 44 = .ok (.iastore, 1) := by decide +kernel
theorem dX9_shareOf_45 : decode bX9_shareOf 45 = .ok (.iinc 4 1, 3) := by decide +kernel
theorem dX9_shareOf_48 : decode bX9_shareOf 48 = .ok (.goto (-22), 3) := by decide +kernel
theorem dX9_shareOf_51 : decode bX9_shareOf 51 = .ok (.iconst 1, 1) := by decide +kernel
theorem dX9_shareOf_52 : decode bX9_shareOf 52 = .ok (.iload_n 1, 1) := by decide +kernel
theorem dX9_shareOf_53 : decode bX9_shareOf 53 = .ok (.ishl, 1) := by decide +kernel
theorem dX9_shareOf_54 : decode bX9_shareOf 54 = .ok (.istore 4, 2) := by decide +kernel
theorem dX9_shareOf_56 : decode bX9_shareOf 56 = .ok (.lconst 0, 1) := by decide +kernel
theorem dX9_shareOf_57 : decode bX9_shareOf 57 = .ok (.lstore 5, 2) := by decide +kernel
theorem dX9_shareOf_59 : decode bX9_shareOf 59 = .ok (.iconst 0, 1) := by decide +kernel
theorem dX9_shareOf_60 : decode bX9_shareOf 60 = .ok (.istore 7, 2) := by decide +kernel
theorem dX9_shareOf_62 : decode bX9_shareOf 62 = .ok (.iload 7, 2) := by decide +kernel
theorem dX9_shareOf_64 : decode bX9_shareOf 64 = .ok (.iload_n 3, 1) := by decide +kernel
theorem dX9_shareOf_65 : decode bX9_shareOf 65 = .ok (.if_icmp .ge 77, 3) := by decide +kernel
theorem dX9_shareOf_68 : decode bX9_shareOf 68 = .ok (.iload 7, 2) := by decide +kernel
theorem dX9_shareOf_70 : decode bX9_shareOf 70 = .ok (.iload 4, 2) := by decide +kernel
theorem dX9_shareOf_72 : decode bX9_shareOf 72 = .ok (.iand, 1) := by decide +kernel
theorem dX9_shareOf_73 : decode bX9_shareOf 73 = .ok (.ifCond .ne 63, 3) := by decide +kernel
theorem dX9_shareOf_76 : decode bX9_shareOf 76 = .ok (.iload 7, 2) := by decide +kernel
theorem dX9_shareOf_78 : decode bX9_shareOf 78 = .ok (.iload 4, 2) := by decide +kernel
theorem dX9_shareOf_80 : decode bX9_shareOf 80 = .ok (.ior, 1) := by decide +kernel
theorem dX9_shareOf_81 : decode bX9_shareOf 81 = .ok (.iload_n 3, 1) := by decide +kernel
theorem dX9_shareOf_82 : decode bX9_shareOf 82 = .ok (.if_icmp .ge 54, 3) := by decide +kernel
theorem dX9_shareOf_85 : decode bX9_shareOf 85 = .ok (.iload 7, 2) := by decide +kernel
theorem dX9_shareOf_87 : decode bX9_shareOf 87 = .ok (.invokestatic 62, 3) := by decide +kernel
theorem dX9_shareOf_90 : decode bX9_shareOf 90 = .ok (.istore 8, 2) := by decide +kernel
theorem dX9_shareOf_92 : decode bX9_shareOf 92 = .ok (.iload 8, 2) := by decide +kernel
theorem dX9_shareOf_94 : decode bX9_shareOf 94 = .ok (.invokestatic 165, 3) := by decide +kernel
theorem dX9_shareOf_97 : decode bX9_shareOf 97 = .ok (.iload_n 2, 1) := by decide +kernel
theorem dX9_shareOf_98 : decode bX9_shareOf 98 = .ok (.iconst 1, 1) := by decide +kernel
theorem dX9_shareOf_99 : decode bX9_shareOf 99 = .ok (.isub, 1) := by decide +kernel
theorem dX9_shareOf_100 : decode bX9_shareOf 100 = .ok (.iload 8, 2) := by decide +kernel
theorem dX9_shareOf_102 : decode bX9_shareOf 102 = .ok (.isub, 1) := by decide +kernel
theorem dX9_shareOf_103 : decode bX9_shareOf 103 = .ok (.invokestatic 165, 3) := by decide +kernel
theorem dX9_shareOf_106 : decode bX9_shareOf 106 = .ok (.lmul, 1) := by decide +kernel
theorem dX9_shareOf_107 : decode bX9_shareOf 107 = .ok (.lstore 9, 2) := by decide +kernel
theorem dX9_shareOf_109 : decode bX9_shareOf 109 = .ok (.lload 5, 2) := by decide +kernel
theorem dX9_shareOf_111 : decode bX9_shareOf 111 = .ok (.lload 9, 2) := by decide +kernel
theorem dX9_shareOf_113 : decode bX9_shareOf 113 = .ok (.aload_n 0, 1) := by decide +kernel
theorem dX9_shareOf_114 : decode bX9_shareOf 114 = .ok (.getfield 25, 3) := by decide +kernel
theorem dX9_shareOf_117 : decode bX9_shareOf 117 = .ok (.iload 7, 2) := by decide +kernel
theorem dX9_shareOf_119 : decode bX9_shareOf 119 = .ok (.iload 4, 2) := by decide +kernel
theorem dX9_shareOf_121 : decode bX9_shareOf 121 = .ok (.ior, 1) := by decide +kernel
theorem dX9_shareOf_122 : decode bX9_shareOf 122 = .ok (.iaload, 1) := by decide +kernel
theorem dX9_shareOf_123 : decode bX9_shareOf 123 = .ok (.aload_n 0, 1) := by decide +kernel
theorem dX9_shareOf_124 : decode bX9_shareOf 124 = .ok (.getfield 25, 3) := by decide +kernel
theorem dX9_shareOf_127 : decode bX9_shareOf 127 = .ok (.iload 7, 2) := by decide +kernel
theorem dX9_shareOf_129 : decode bX9_shareOf 129 = .ok (.iaload, 1) := by decide +kernel
theorem dX9_shareOf_130 : decode bX9_shareOf 130 = .ok (.isub, 1) := by decide +kernel
theorem dX9_shareOf_131 : decode bX9_shareOf 131 = .ok (.i2l, 1) := by decide +kernel
theorem dX9_shareOf_132 : decode bX9_shareOf 132 = .ok (.lmul, 1) := by decide +kernel
theorem dX9_shareOf_133 : decode bX9_shareOf 133 = .ok (.ladd, 1) := by decide +kernel
theorem dX9_shareOf_134 : decode bX9_shareOf 134 = .ok (.lstore 5, 2) := by decide +kernel
theorem dX9_shareOf_136 : decode bX9_shareOf 136 = .ok (.iinc 7 1, 3) := by decide +kernel
theorem dX9_shareOf_139 : decode bX9_shareOf 139 = .ok (.goto (-77), 3) := by decide +kernel
theorem dX9_shareOf_142 : decode bX9_shareOf 142 = .ok (.aload_n 0, 1) := by decide +kernel
theorem dX9_shareOf_143 : decode bX9_shareOf 143 = .ok (.getfield 21, 3) := by decide +kernel
theorem dX9_shareOf_146 : decode bX9_shareOf 146 = .ok (.lload 5, 2) := by decide +kernel
theorem dX9_shareOf_148 : decode bX9_shareOf 148 = .ok (.iload_n 2, 1) := by decide +kernel
theorem dX9_shareOf_149 : decode bX9_shareOf 149 = .ok (.invokestatic 165, 3) := by decide +kernel
theorem dX9_shareOf_152 : decode bX9_shareOf 152 = .ok (.invokevirtual 169, 3) := by decide +kernel
theorem dX9_shareOf_155 : decode bX9_shareOf 155 = .ok (.aload_n 0, 1) := by decide +kernel
theorem dX9_shareOf_156 : decode bX9_shareOf 156 = .ok (.getfield 21, 3) := by decide +kernel
theorem dX9_shareOf_159 : decode bX9_shareOf 159 = .ok (.areturn, 1) := by decide +kernel
theorem dX9_ordersOf_0 : decode bX9_ordersOf 0 = .ok (.lconst 1, 1) := by decide +kernel
theorem dX9_ordersOf_1 : decode bX9_ordersOf 1 = .ok (.lstore_n 1, 1) := by decide +kernel
theorem dX9_ordersOf_2 : decode bX9_ordersOf 2 = .ok (.iconst 2, 1) := by decide +kernel
theorem dX9_ordersOf_3 : decode bX9_ordersOf 3 = .ok (.istore_n 3, 1) := by decide +kernel
theorem dX9_ordersOf_4 : decode bX9_ordersOf 4 = .ok (.iload_n 3, 1) := by decide +kernel
theorem dX9_ordersOf_5 : decode bX9_ordersOf 5 = .ok (.iload_n 0, 1) := by decide +kernel
theorem dX9_ordersOf_6 : decode bX9_ordersOf 6 = .ok (.if_icmp .gt 20, 3) := by decide +kernel
theorem dX9_ordersOf_9 : decode bX9_ordersOf 9 = .ok (.iload_n 3, 1) := by decide +kernel
theorem dX9_ordersOf_10 : decode bX9_ordersOf 10 = .ok (.bipush 7, 2) := by decide +kernel
theorem dX9_ordersOf_12 : decode bX9_ordersOf 12 = .ok (.if_icmp .gt 14, 3) := by decide +kernel
theorem dX9_ordersOf_15 : decode bX9_ordersOf 15 = .ok (.lload_n 1, 1) := by decide +kernel
theorem dX9_ordersOf_16 : decode bX9_ordersOf 16 = .ok (.iload_n 3, 1) := by decide +kernel
theorem dX9_ordersOf_17 : decode bX9_ordersOf 17 = .ok (.i2l, 1) := by decide +kernel
theorem dX9_ordersOf_18 : decode bX9_ordersOf 18 = .ok (.lmul, 1) := by decide +kernel
theorem dX9_ordersOf_19 : decode bX9_ordersOf 19 = .ok (.lstore_n 1, 1) := by decide +kernel
theorem dX9_ordersOf_20 : decode bX9_ordersOf 20 = .ok (.iinc 3 1, 3) := by decide +kernel
theorem dX9_ordersOf_23 : decode bX9_ordersOf 23 = .ok (.goto (-19), 3) := by decide +kernel
theorem dX9_ordersOf_26 : decode bX9_ordersOf 26 = .ok (.lload_n 1, 1) := by decide +kernel
theorem dX9_ordersOf_27 : decode bX9_ordersOf 27 = .ok (.lreturn, 1) := by decide +kernel
theorem dX9_gain_0 : decode bX9_gain 0 = .ok (.aload_n 0, 1) := by decide +kernel
theorem dX9_gain_1 : decode bX9_gain 1 = .ok (.getfield 12, 3) := by decide +kernel
theorem dX9_gain_4 : decode bX9_gain 4 = .ok (.aload_n 0, 1) := by decide +kernel
theorem dX9_gain_5 : decode bX9_gain 5 = .ok (.getfield 32, 3) := by decide +kernel
theorem dX9_gain_8 : decode bX9_gain 8 = .ok (.invokevirtual 68, 3) := by decide +kernel
theorem dX9_gain_11 : decode bX9_gain 11 = .ok (.aload_n 0, 1) := by decide +kernel
theorem dX9_gain_12 : decode bX9_gain 12 = .ok (.getfield 12, 3) := by decide +kernel
theorem dX9_gain_15 : decode bX9_gain 15 = .ok (.getfield 44, 3) := by decide +kernel
theorem dX9_gain_18 : decode bX9_gain 18 = .ok (.iload_n 1, 1) := by decide +kernel
theorem dX9_gain_19 : decode bX9_gain 19 = .ok (.invokevirtual 109, 3) := by decide +kernel
theorem dX9_gain_22 : decode bX9_gain 22 = .ok (.ifCond .eq 17, 3) := by decide +kernel
theorem dX9_gain_25 : decode bX9_gain 25 = .ok (.aload_n 0, 1) := by decide +kernel
theorem dX9_gain_26 : decode bX9_gain 26 = .ok (.getfield 12, 3) := by decide +kernel
theorem dX9_gain_29 : decode bX9_gain 29 = .ok (.getfield 44, 3) := by decide +kernel
theorem dX9_gain_32 : decode bX9_gain 32 = .ok (.iload_n 2, 1) := by decide +kernel
theorem dX9_gain_33 : decode bX9_gain 33 = .ok (.invokevirtual 109, 3) := by decide +kernel
theorem dX9_gain_36 : decode bX9_gain 36 = .ok (.ifCond .ne 7, 3) := by decide +kernel
theorem dX9_gain_39 : decode bX9_gain 39 = .ok (.sipush (-1000), 3) := by decide +kernel
theorem dX9_gain_42 : decode bX9_gain 42 = .ok (.ireturn, 1) := by decide +kernel
theorem dX9_gain_43 : decode bX9_gain 43 = .ok (.aload_n 0, 1) := by decide +kernel
theorem dX9_gain_44 : decode bX9_gain 44 = .ok (.getfield 12, 3) := by decide +kernel
theorem dX9_gain_47 : decode bX9_gain 47 = .ok (.getfield 44, 3) := by decide +kernel
theorem dX9_gain_50 : decode bX9_gain 50 = .ok (.getfield 112, 3) := by decide +kernel
theorem dX9_gain_53 : decode bX9_gain 53 = .ok (.iload_n 1, 1) := by decide +kernel
theorem dX9_gain_54 : decode bX9_gain 54 = .ok (.dup2, 1) := by decide +kernel
theorem dX9_gain_55 : decode bX9_gain 55 = .ok (.iaload, 1) := by decide +kernel
theorem dX9_gain_56 : decode bX9_gain 56 = .ok (.bipush 50, 2) := by decide +kernel
theorem dX9_gain_58 : decode bX9_gain 58 = .ok (.iload_n 3, 1) := by decide +kernel
theorem dX9_gain_59 : decode bX9_gain 59 = .ok (.iconst 1, 1) := by decide +kernel
theorem dX9_gain_60 : decode bX9_gain 60 = .ok (.iand, 1) := by decide +kernel
theorem dX9_gain_61 : decode bX9_gain 61 = .ok (.imul, 1) := by decide +kernel
theorem dX9_gain_62 : decode bX9_gain 62 = .ok (.iadd, 1) := by decide +kernel
theorem dX9_gain_63 : decode bX9_gain 63 = .ok (.iastore, 1) := by decide +kernel
theorem dX9_gain_64 : decode bX9_gain 64 = .ok (.aload_n 0, 1) := by decide +kernel
theorem dX9_gain_65 : decode bX9_gain 65 = .ok (.getfield 12, 3) := by decide +kernel
theorem dX9_gain_68 : decode bX9_gain 68 = .ok (.getfield 44, 3) := by decide +kernel
theorem dX9_gain_71 : decode bX9_gain 71 = .ok (.getfield 112, 3) := by decide +kernel
theorem dX9_gain_74 : decode bX9_gain 74 = .ok (.iload_n 2, 1) := by decide +kernel
theorem dX9_gain_75 : decode bX9_gain 75 = .ok (.dup2, 1) := by decide +kernel
theorem dX9_gain_76 : decode bX9_gain 76 = .ok (.iaload, 1) := by decide +kernel
theorem dX9_gain_77 : decode bX9_gain 77 = .ok (.bipush 50, 2) := by decide +kernel
theorem dX9_gain_79 : decode bX9_gain 79 = .ok (.iload_n 3, 1) := by decide +kernel
theorem dX9_gain_80 : decode bX9_gain 80 = .ok (.iconst 1, 1) := by decide +kernel
theorem dX9_gain_81 : decode bX9_gain 81 = .ok (.ishr, 1) := by decide +kernel
theorem dX9_gain_82 : decode bX9_gain 82 = .ok (.iconst 1, 1) := by decide +kernel
theorem dX9_gain_83 : decode bX9_gain 83 = .ok (.iand, 1) := by decide +kernel
theorem dX9_gain_84 : decode bX9_gain 84 = .ok (.imul, 1) := by decide +kernel
theorem dX9_gain_85 : decode bX9_gain 85 = .ok (.iadd, 1) := by decide +kernel
theorem dX9_gain_86 : decode bX9_gain 86 = .ok (.iastore, 1) := by decide +kernel
theorem dX9_gain_87 : decode bX9_gain 87 = .ok (.iload 4, 2) := by decide +kernel
theorem dX9_gain_89 : decode bX9_gain 89 = .ok (.ifCond .ne 8, 3) := by decide +kernel
theorem dX9_gain_92 : decode bX9_gain 92 = .ok (.bipush 21, 2) := by decide +kernel
theorem dX9_gain_94 : decode bX9_gain 94 = .ok (.goto 5, 3) := by decide +kernel
theorem dX9_gain_97 : decode bX9_gain 97 = .ok (.bipush 42, 2) := by decide +kernel
theorem dX9_gain_99 : decode bX9_gain 99 = .ok (.istore 5, 2) := by decide +kernel
theorem dX9_gain_101 : decode bX9_gain 101 = .ok (.iconst 3, 1) := by decide +kernel
theorem dX9_gain_102 : decode bX9_gain 102 = .ok (.aload_n 0, 1) := by decide +kernel
theorem dX9_gain_103 : decode bX9_gain 103 = .ok (.invokevirtual 153, 3) := by decide +kernel
theorem dX9_gain_106 : decode bX9_gain 106 = .ok (.iload 5, 2) := by decide +kernel
theorem dX9_gain_108 : decode bX9_gain 108 = .ok (.iand, 1) := by decide +kernel
theorem dX9_gain_109 : decode bX9_gain 109 = .ok (.invokestatic 62, 3) := by decide +kernel
theorem dX9_gain_112 : decode bX9_gain 112 = .ok (.imul, 1) := by decide +kernel
theorem dX9_gain_113 : decode bX9_gain 113 = .ok (.iconst 2, 1) := by decide +kernel
theorem dX9_gain_114 : decode bX9_gain 114 = .ok (.iload_n 3, 1) := by decide +kernel
theorem dX9_gain_115 : decode bX9_gain 115 = .ok (.iload 4, 2) := by decide +kernel
theorem dX9_gain_117 : decode bX9_gain 117 = .ok (.ishr, 1) := by decide +kernel
theorem dX9_gain_118 : decode bX9_gain 118 = .ok (.iconst 1, 1) := by decide +kernel
theorem dX9_gain_119 : decode bX9_gain 119 = .ok (.iand, 1) := by decide +kernel
theorem dX9_gain_120 : decode bX9_gain 120 = .ok (.imul, 1) := by decide +kernel
theorem dX9_gain_121 : decode bX9_gain 121 = .ok (.isub, 1) := by decide +kernel
theorem dX9_gain_122 : decode bX9_gain 122 = .ok (.ireturn, 1) := by decide +kernel
theorem dX9_restingChoices_0 : decode bX9_restingChoices 0 = .ok (.iconst 0, 1) := by decide +kernel
theorem dX9_restingChoices_1 : decode bX9_restingChoices 1 = .ok (.istore_n 3, 1) := by decide +kernel
theorem dX9_restingChoices_2 : decode bX9_restingChoices 2 = .ok (.iload_n 3, 1) := by decide +kernel
theorem dX9_restingChoices_3 : decode bX9_restingChoices 3 = .ok (.aload_n 0, 1) := by decide +kernel
theorem dX9_restingChoices_4 : decode bX9_restingChoices 4 = .ok (.getfield 29, 3) := by decide +kernel
theorem dX9_restingChoices_7 : decode bX9_restingChoices 7 = .ok (.arraylength, 1) := by decide +kernel
theorem dX9_restingChoices_8 : decode bX9_restingChoices 8 = .ok (.if_icmp .ge 27, 3) := by decide +kernel
theorem dX9_restingChoices_11 : decode bX9_restingChoices 11 = .ok (.aload_n 0, 1) := by decide +kernel
theorem dX9_restingChoices_12 : decode bX9_restingChoices 12 = .ok (.getfield 29, 3) := by decide +kernel
theorem dX9_restingChoices_15 : decode bX9_restingChoices 15 = .ok (.iload_n 3, 1) := by decide +kernel
theorem dX9_restingChoices_16 : decode bX9_restingChoices 16 = .ok (.aload_n 0, 1) := by decide +kernel
theorem dX9_restingChoices_17 : decode bX9_restingChoices 17 = .ok (.iload_n 1, 1) := by decide +kernel
theorem dX9_restingChoices_18 : decode bX9_restingChoices 18 = .ok (.iload_n 2, 1) := by decide +kernel
theorem dX9_restingChoices_19 : decode bX9_restingChoices 19 = .ok (.iload_n 3, 1) := by decide +kernel
theorem dX9_restingChoices_20 : decode bX9_restingChoices 20 = .ok (.iconst 1, 1) := by decide +kernel
theorem dX9_restingChoices_21 : decode bX9_restingChoices 21 = .ok (.ishr, 1) := by decide +kernel
theorem dX9_restingChoices_22 : decode bX9_restingChoices 22 = .ok (.iload_n 3, 1) := by decide +kernel
theorem dX9_restingChoices_23 : decode bX9_restingChoices 23 = .ok (.iconst 1, 1) := by decide +kernel
theorem dX9_restingChoices_24 : decode bX9_restingChoices 24 = .ok (.iand, 1) := by decide +kernel
theorem dX9_restingChoices_25 : decode bX9_restingChoices 25 = .ok (.invokevirtual 173, 3) := by decide +kernel
theorem dX9_restingChoices_28 : decode bX9_restingChoices 28 = .ok (.iastore, 1) := by decide +kernel
theorem dX9_restingChoices_29 : decode bX9_restingChoices 29 = .ok (.iinc 3 1, 3) := by decide +kernel
theorem dX9_restingChoices_32 : decode bX9_restingChoices 32 = .ok (.goto (-30), 3) := by decide +kernel
theorem dX9_restingChoices_35 : decode bX9_restingChoices 35 = .ok (.iconst 0, 1) := by decide +kernel
theorem dX9_restingChoices_36 : decode bX9_restingChoices 36 = .ok (.istore_n 3, 1) := by decide +kernel
theorem dX9_restingChoices_37 : decode bX9_restingChoices 37 = .ok (.iconst 0, 1) := by decide +kernel
theorem dX9_restingChoices_38 : decode bX9_restingChoices 38 = .ok (.istore 4, 2) := by decide +kernel
theorem dX9_restingChoices_40 : decode bX9_restingChoices 40 = .ok (.iload 4, 2) := by decide +kernel
theorem dX9_restingChoices_42 : decode bX9_restingChoices 42 = .ok (.iconst 4, 1) := by decide +kernel
theorem dX9_restingChoices_43 : decode bX9_restingChoices 43 = .ok (.if_icmp .ge 90, 3) := by decide +kernel
theorem dX9_restingChoices_46 : decode bX9_restingChoices 46 = .ok (.aload_n 0, 1) := by decide +kernel
theorem dX9_restingChoices_47 : decode bX9_restingChoices 47 = .ok (.getfield 29, 3) := by decide +kernel
theorem dX9_restingChoices_50 : decode bX9_restingChoices 50 = .ok (.iconst 2, 1) := by decide +kernel
theorem dX9_restingChoices_51 : decode bX9_restingChoices 51 = .ok (.iload 4, 2) := by decide +kernel
theorem dX9_restingChoices_53 : decode bX9_restingChoices 53 = .ok (.imul, 1) := by decide +kernel
theorem dX9_restingChoices_54 : decode bX9_restingChoices 54 = .ok (.iaload, 1) := by decide +kernel
theorem dX9_restingChoices_55 : decode bX9_restingChoices 55 = .ok (.aload_n 0, 1) := by decide +kernel
theorem dX9_restingChoices_56 : decode bX9_restingChoices 56 = .ok (.getfield 29, 3) := by decide +kernel
theorem dX9_restingChoices_59 : decode bX9_restingChoices 59 = .ok (.iconst 2, 1) := by decide +kernel
theorem dX9_restingChoices_60 : decode bX9_restingChoices 60 = .ok (.iload 4, 2) := by decide +kernel
theorem dX9_restingChoices_62 : decode bX9_restingChoices 62 = .ok (.iconst 1, 1) := by decide +kernel
theorem dX9_restingChoices_63 : decode bX9_restingChoices 63 = .ok (.ixor, 1) := by decide +kernel
theorem dX9_restingChoices_64 : decode bX9_restingChoices 64 = .ok (.imul, 1) := by decide +kernel
theorem dX9_restingChoices_65 : decode bX9_restingChoices 65 = .ok (.iaload, 1) := by decide +kernel
theorem dX9_restingChoices_66 : decode bX9_restingChoices 66 = .ok (.if_icmp .lt 7, 3) := by decide +kernel
theorem dX9_restingChoices_69 : decode bX9_restingChoices 69 = .ok (.iconst 1, 1) := by decide +kernel
theorem dX9_restingChoices_70 : decode bX9_restingChoices 70 = .ok (.goto 4, 3) := by decide +kernel
theorem dX9_restingChoices_73 : decode bX9_restingChoices 73 = .ok (.iconst 0, 1) := by decide +kernel
theorem dX9_restingChoices_74 : decode bX9_restingChoices 74 = .ok (.istore 5, 2) := by decide +kernel
theorem dX9_restingChoices_76 : decode bX9_restingChoices 76 = .ok (.aload_n 0, 1) := by decide +kernel
theorem dX9_restingChoices_77 : decode bX9_restingChoices 77 = .ok (.getfield 29, 3) := by decide +kernel
theorem dX9_restingChoices_80 : decode bX9_restingChoices 80 = .ok (.iconst 2, 1) := by decide +kernel
theorem dX9_restingChoices_81 : decode bX9_restingChoices 81 = .ok (.iload 4, 2) := by decide +kernel
theorem dX9_restingChoices_83 : decode bX9_restingChoices 83 = .ok (.imul, 1) := by decide +kernel
theorem dX9_restingChoices_84 : decode bX9_restingChoices 84 = .ok (.iconst 1, 1) := by decide +kernel
theorem dX9_restingChoices_85 : decode bX9_restingChoices 85 = .ok (.iadd, 1) := by decide +kernel
theorem dX9_restingChoices_86 : decode bX9_restingChoices 86 = .ok (.iaload, 1) := by decide +kernel
theorem dX9_restingChoices_87 : decode bX9_restingChoices 87 = .ok (.aload_n 0, 1) := by decide +kernel
theorem dX9_restingChoices_88 : decode bX9_restingChoices 88 = .ok (.getfield 29, 3) := by decide +kernel
theorem dX9_restingChoices_91 : decode bX9_restingChoices 91 = .ok (.iconst 2, 1) := by decide +kernel
theorem dX9_restingChoices_92 : decode bX9_restingChoices 92 = .ok (.iload 4, 2) := by decide +kernel
theorem dX9_restingChoices_94 : decode bX9_restingChoices 94 = .ok (.iconst 2, 1) := by decide +kernel
theorem dX9_restingChoices_95 : decode bX9_restingChoices 95 = .ok (.ixor, 1) := by decide +kernel
theorem dX9_restingChoices_96 : decode bX9_restingChoices 96 = .ok (.imul, 1) := by decide +kernel
theorem dX9_restingChoices_97 : decode bX9_restingChoices 97 = .ok (.iconst 1, 1) := by decide +kernel
theorem dX9_restingChoices_98 : decode bX9_restingChoices 98 = .ok (.iadd, 1) := by decide +kernel
theorem dX9_restingChoices_99 : decode bX9_restingChoices 99 = .ok (.iaload, 1) := by decide +kernel
theorem dX9_restingChoices_100 : decode bX9_restingChoices 100 = .ok (.if_icmp .lt 7, 3) := by decide +kernel
theorem dX9_restingChoices_103 : decode bX9_restingChoices 103 = .ok (.iconst 1, 1) := by decide +kernel
theorem dX9_restingChoices_104 : decode bX9_restingChoices 104 = .ok (.goto 4, 3) := by decide +kernel
theorem dX9_restingChoices_107 : decode bX9_restingChoices 107 = .ok (.iconst 0, 1) := by decide +kernel
theorem dX9_restingChoices_108 : decode bX9_restingChoices 108 = .ok (.istore 6, 2) := by decide +kernel
theorem dX9_restingChoices_110 : decode bX9_restingChoices 110 = .ok (.iload 5, 2) := by decide +kernel
theorem dX9_restingChoices_112 : decode bX9_restingChoices 112 = .ok (.ifCond .eq 15, 3) := by decide +kernel
theorem dX9_restingChoices_115 : decode bX9_restingChoices 115 = .ok (.iload 6, 2) := by decide +kernel
theorem dX9_restingChoices_117 : decode bX9_restingChoices 117 = .ok (.ifCond .eq 10, 3) := by decide +kernel
theorem dX9_restingChoices_120 : decode bX9_restingChoices 120 = .ok (.iload_n 3, 1) := by decide +kernel
theorem dX9_restingChoices_121 : decode bX9_restingChoices 121 = .ok (.iconst 1, 1) := by decide +kernel
theorem dX9_restingChoices_122 : decode bX9_restingChoices 122 = .ok (.iload 4, 2) := by decide +kernel
theorem dX9_restingChoices_124 : decode bX9_restingChoices 124 = .ok (.ishl, 1) := by decide +kernel
theorem dX9_restingChoices_125 : decode bX9_restingChoices 125 = .ok (.ior, 1) := by decide +kernel
theorem dX9_restingChoices_126 : decode bX9_restingChoices 126 = .ok (.istore_n 3, 1) := by decide +kernel
theorem dX9_restingChoices_127 : decode bX9_restingChoices 127 = .ok (.iinc 4 1, 3) := by decide +kernel
theorem dX9_restingChoices_130 : decode bX9_restingChoices 130 = .ok (.goto (-90), 3) := by decide +kernel
theorem dX9_restingChoices_133 : decode bX9_restingChoices 133 = .ok (.iload_n 3, 1) := by decide +kernel
theorem dX9_restingChoices_134 : decode bX9_restingChoices 134 = .ok (.ireturn, 1) := by decide +kernel
