theorem dX0_init_0 : decode bX0_init 0 = .ok (.aload_n 0, 1) := by decide +kernel
theorem dX0_init_1 : decode bX0_init 1 = .ok (.invokespecial 3, 3) := by decide +kernel
theorem dX0_init_4 : decode bX0_init 4 = .ok (.aload_n 0, 1) := by decide +kernel
theorem dX0_init_5 : decode bX0_init 5 = .ok (.bipush 30, 2) := by decide +kernel
theorem dX0_init_7 : decode bX0_init 7 = .ok (.newarray .int, 2) := by decide +kernel
theorem dX0_init_9 : decode bX0_init 9 = .ok (.putfield 9, 3) := by decide +kernel
theorem dX0_init_12 : decode bX0_init 12 = .ok (.aload_n 0, 1) := by decide +kernel
theorem dX0_init_13 : decode bX0_init 13 = .ok (.bipush 30, 2) := by decide +kernel
theorem dX0_init_15 : decode bX0_init 15 = .ok (.newarray .int, 2) := by decide +kernel
theorem dX0_init_17 : decode bX0_init 17 = .ok (.putfield 15, 3) := by decide +kernel
theorem dX0_init_20 : decode bX0_init 20 = .ok (.aload_n 0, 1) := by decide +kernel
theorem dX0_init_21 : decode bX0_init 21 = .ok (.bipush 30, 2) := by decide +kernel
theorem dX0_init_23 : decode bX0_init 23 = .ok (.newarray .int, 2) := by decide +kernel
theorem dX0_init_25 : decode bX0_init 25 = .ok (.putfield 18, 3) := by decide +kernel
theorem dX0_init_28 : decode bX0_init 28 = .ok (.aload_n 0, 1) := by decide +kernel
theorem dX0_init_29 : decode bX0_init 29 = .ok (.bipush 105, 2) := by decide +kernel
theorem dX0_init_31 : decode bX0_init 31 = .ok (.newarray .int, 2) := by decide +kernel
theorem dX0_init_33 : decode bX0_init 33 = .ok (.putfield 21, 3) := by decide +kernel
theorem dX0_init_36 : decode bX0_init 36 = .ok (.return_, 1) := by decide +kernel
theorem dX0_clear_0 : decode bX0_clear 0 = .ok (.aload_n 0, 1) := by decide +kernel
theorem dX0_clear_1 : decode bX0_clear 1 = .ok (.iconst 0, 1) := by decide +kernel
theorem dX0_clear_2 : decode bX0_clear 2 = .ok (.putfield 24, 3) := by decide +kernel
theorem dX0_clear_5 : decode bX0_clear 5 = .ok (.aload_n 0, 1) := by decide +kernel
theorem dX0_clear_6 : decode bX0_clear 6 = .ok (.iconst 0, 1) := by decide +kernel
theorem dX0_clear_7 : decode bX0_clear 7 = .ok (.putfield 28, 3) := by decide +kernel
theorem dX0_clear_10 : decode bX0_clear 10 = .ok (.aload_n 0, 1) := by decide +kernel
theorem dX0_clear_11 : decode bX0_clear 11 = .ok (.getfield 21, 3) := by decide +kernel
theorem dX0_clear_14 : decode bX0_clear 14 = .ok (.iconst 0, 1) := by decide +kernel
theorem dX0_clear_15 : decode bX0_clear 15 = .ok (.invokestatic 31, 3) := by decide +kernel
theorem dX0_clear_18 : decode bX0_clear 18 = .ok (.return_, 1) := by decide +kernel
theorem dX0_copyFrom_0 : decode bX0_copyFrom 0 = .ok (.aload_n 0, 1) := by decide +kernel
theorem dX0_copyFrom_1 : decode bX0_copyFrom 1 = .ok (.aload_n 1, 1) := by decide +kernel
theorem dX0_copyFrom_2 : decode bX0_copyFrom 2 = .ok (.getfield 24, 3) := by decide +kernel
theorem dX0_copyFrom_5 : decode bX0_copyFrom 5 = .ok (.putfield 24, 3) := by decide +kernel
theorem dX0_copyFrom_8 : decode bX0_copyFrom 8 = .ok (.aload_n 0, 1) := by decide +kernel
theorem dX0_copyFrom_9 : decode bX0_copyFrom 9 = .ok (.aload_n 1, 1) := by decide +kernel
theorem dX0_copyFrom_10 : decode bX0_copyFrom 10 = .ok (.getfield 28, 3) := by decide +kernel
theorem dX0_copyFrom_13 : decode bX0_copyFrom 13 = .ok (.putfield 28, 3) := by decide +kernel
theorem dX0_copyFrom_16 : decode bX0_copyFrom 16 = .ok (.aload_n 1, 1) := by decide +kernel
theorem dX0_copyFrom_17 : decode bX0_copyFrom 17 = .ok (.getfield 9, 3) := by decide +kernel
theorem dX0_copyFrom_20 : decode bX0_copyFrom 20 = .ok (.iconst 0, 1) := by decide +kernel
theorem dX0_copyFrom_21 : decode bX0_copyFrom 21 = .ok (.aload_n 0, 1) := by decide +kernel
theorem dX0_copyFrom_22 : decode bX0_copyFrom 22 = .ok (.getfield 9, 3) := by decide +kernel
theorem dX0_copyFrom_25 : decode bX0_copyFrom 25 = .ok (.iconst 0, 1) := by decide +kernel
theorem dX0_copyFrom_26 : decode bX0_copyFrom 26 = .ok (.bipush 30, 2) := by decide +kernel
theorem dX0_copyFrom_28 : decode bX0_copyFrom 28 = .ok (.invokestatic 37, 3) := by decide +kernel
theorem dX0_copyFrom_31 : decode bX0_copyFrom 31 = .ok (.aload_n 1, 1) := by decide +kernel
theorem dX0_copyFrom_32 : decode bX0_copyFrom 32 = .ok (.getfield 15, 3) := by decide +kernel
theorem dX0_copyFrom_35 : decode bX0_copyFrom 35 = .ok (.iconst 0, 1) := by decide +kernel
theorem dX0_copyFrom_36 : decode bX0_copyFrom 36 = .ok (.aload_n 0, 1) := by decide +kernel
theorem dX0_copyFrom_37 : decode bX0_copyFrom 37 = .ok (.getfield 15, 3) := by decide +kernel
theorem dX0_copyFrom_40 : decode bX0_copyFrom 40 = .ok (.iconst 0, 1) := by decide +kernel
theorem dX0_copyFrom_41 : decode bX0_copyFrom 41 = .ok (.bipush 30, 2) := by decide +kernel
theorem dX0_copyFrom_43 : decode bX0_copyFrom 43 = .ok (.invokestatic 37, 3) := by decide +kernel
theorem dX0_copyFrom_46 : decode bX0_copyFrom 46 = .ok (.aload_n 1, 1) := by decide +kernel
theorem dX0_copyFrom_47 : decode bX0_copyFrom 47 = .ok (.getfield 18, 3) := by decide +kernel
theorem dX0_copyFrom_50 : decode bX0_copyFrom 50 = .ok (.iconst 0, 1) := by decide +kernel
theorem dX0_copyFrom_51 : decode bX0_copyFrom 51 = .ok (.aload_n 0, 1) := by decide +kernel
theorem dX0_copyFrom_52 : decode bX0_copyFrom 52 = .ok (.getfield 18, 3) := by decide +kernel
theorem dX0_copyFrom_55 : decode bX0_copyFrom 55 = .ok (.iconst 0, 1) := by decide +kernel
theorem dX0_copyFrom_56 : decode bX0_copyFrom 56 = .ok (.bipush 30, 2) := by decide +kernel
theorem dX0_copyFrom_58 : decode bX0_copyFrom 58 = .ok (.invokestatic 37, 3) := by decide +kernel
theorem dX0_copyFrom_61 : decode bX0_copyFrom 61 = .ok (.aload_n 1, 1) := by decide +kernel
theorem dX0_copyFrom_62 : decode bX0_copyFrom 62 = .ok (.getfield 21, 3) := by decide +kernel
theorem dX0_copyFrom_65 : decode bX0_copyFrom 65 = .ok (.iconst 0, 1) := by decide +kernel
theorem dX0_copyFrom_66 : decode bX0_copyFrom 66 = .ok (.aload_n 0, 1) := by decide +kernel
theorem dX0_copyFrom_67 : decode bX0_copyFrom 67 = .ok (.getfield 21, 3) := by decide +kernel
theorem dX0_copyFrom_70 : decode bX0_copyFrom 70 = .ok (.iconst 0, 1) := by decide +kernel
theorem dX0_copyFrom_71 : decode bX0_copyFrom 71 = .ok (.bipush 105, 2) := by decide +kernel
theorem dX0_copyFrom_73 : decode bX0_copyFrom 73 = .ok (.invokestatic 37, 3) := by decide +kernel
theorem dX0_copyFrom_76 : decode bX0_copyFrom 76 = .ok (.return_, 1) := by decide +kernel
theorem dX0_addFire_0 : decode bX0_addFire 0 = .ok (.aload_n 0, 1) := by decide +kernel
theorem dX0_addFire_1 : decode bX0_addFire 1 = .ok (.iload_n 1, 1) := by decide +kernel
theorem dX0_addFire_2 : decode bX0_addFire 2 = .ok (.iload_n 2, 1) := by decide +kernel
theorem dX0_addFire_3 : decode bX0_addFire 3 = .ok (.iload_n 3, 1) := by decide +kernel
theorem dX0_addFire_4 : decode bX0_addFire 4 = .ok (.invokevirtual 43, 3) := by decide +kernel
theorem dX0_addFire_7 : decode bX0_addFire 7 = .ok (.ifCond .ne 5, 3) := by decide +kernel
theorem dX0_addFire_10 : decode bX0_addFire 10 = .ok (.iconst 0, 1) := by decide +kernel
theorem dX0_addFire_11 : decode bX0_addFire 11 = .ok (.ireturn, 1) := by decide +kernel
theorem dX0_addFire_12 : decode bX0_addFire 12 = .ok (.aload_n 0, 1) := by decide +kernel
theorem dX0_addFire_13 : decode bX0_addFire 13 = .ok (.iload_n 1, 1) := by decide +kernel
theorem dX0_addFire_14 : decode bX0_addFire 14 = .ok (.iload_n 2, 1) := by decide +kernel
theorem dX0_addFire_15 : decode bX0_addFire 15 = .ok (.iload_n 3, 1) := by decide +kernel
theorem dX0_addFire_16 : decode bX0_addFire 16 = .ok (.invokevirtual 47, 3) := by decide +kernel
theorem dX0_addFire_19 : decode bX0_addFire 19 = .ok (.iconst 1, 1) := by decide +kernel
theorem dX0_addFire_20 : decode bX0_addFire 20 = .ok (.ireturn, 1) := by decide +kernel
theorem dX0_addGust_0 : decode bX0_addGust 0 = .ok (.aload_n 0, 1) := by decide +kernel
theorem dX0_addGust_1 : decode bX0_addGust 1 = .ok (.iconst (-1), 1) := by decide +kernel
theorem dX0_addGust_2 : decode bX0_addGust 2 = .ok (.iconst 0, 1) := by decide +kernel
theorem dX0_addGust_3 : decode bX0_addGust 3 = .ok (.iload_n 1, 1) := by decide +kernel
theorem dX0_addGust_4 : decode bX0_addGust 4 = .ok (.invokevirtual 43, 3) := by decide +kernel
theorem dX0_addGust_7 : decode bX0_addGust 7 = .ok (.ifCond .ne 5, 3) := by decide +kernel
theorem dX0_addGust_10 : decode bX0_addGust 10 = .ok (.iconst 0, 1) := by decide +kernel
theorem dX0_addGust_11 : decode bX0_addGust 11 = .ok (.ireturn, 1) := by decide +kernel
theorem dX0_addGust_12 : decode bX0_addGust 12 = .ok (.aload_n 0, 1) := by decide +kernel
theorem dX0_addGust_13 : decode bX0_addGust 13 = .ok (.dup, 1) := by decide +kernel
theorem dX0_addGust_14 : decode bX0_addGust 14 = .ok (.getfield 28, 3) := by decide +kernel
theorem dX0_addGust_17 : decode bX0_addGust 17 = .ok (.iconst 1, 1) := by decide +kernel
theorem dX0_addGust_18 : decode bX0_addGust 18 = .ok (.iload_n 1, 1) := by decide +kernel
theorem dX0_addGust_19 : decode bX0_addGust 19 = .ok (.ishl, 1) := by decide +kernel
theorem dX0_addGust_20 : decode bX0_addGust 20 = .ok (.ior, 1) := by decide +kernel
theorem dX0_addGust_21 : decode bX0_addGust 21 = .ok (.putfield 28, 3) := by decide +kernel
theorem dX0_addGust_24 : decode bX0_addGust 24 = .ok (.iconst 1, 1) := by decide +kernel
theorem dX0_addGust_25 : decode bX0_addGust 25 = .ok (.ireturn, 1) := by decide +kernel
theorem dX0_addAct_0 : decode bX0_addAct 0 = .ok (.aload_n 0, 1) := by decide +kernel
theorem dX0_addAct_1 : decode bX0_addAct 1 = .ok (.getfield 24, 3) := by decide +kernel
theorem dX0_addAct_4 : decode bX0_addAct 4 = .ok (.ifCond .lt 12, 3) := by decide +kernel
theorem dX0_addAct_7 : decode bX0_addAct 7 = .ok (.aload_n 0, 1) := by decide +kernel
theorem dX0_addAct_8 : decode bX0_addAct 8 = .ok (.getfield 24, 3) := by decide +kernel
theorem dX0_addAct_11 : decode bX0_addAct 11 = .ok (.bipush 30, 2) := by decide +kernel
theorem dX0_addAct_13 : decode bX0_addAct 13 = .ok (.if_icmp .lt 5, 3) := by decide +kernel
theorem dX0_addAct_16 : decode bX0_addAct 16 = .ok (.iconst 0, 1) := by decide +kernel
theorem dX0_addAct_17 : decode bX0_addAct 17 = .ok (.ireturn, 1) := by decide +kernel
theorem dX0_addAct_18 : decode bX0_addAct 18 = .ok (.aload_n 0, 1) := by decide +kernel
theorem dX0_addAct_19 : decode bX0_addAct 19 = .ok (.getfield 9, 3) := by decide +kernel
theorem dX0_addAct_22 : decode bX0_addAct 22 = .ok (.aload_n 0, 1) := by decide +kernel
theorem dX0_addAct_23 : decode bX0_addAct 23 = .ok (.getfield 24, 3) := by decide +kernel
theorem dX0_addAct_26 : decode bX0_addAct 26 = .ok (.iload_n 1, 1) := by decide +kernel
theorem dX0_addAct_27 : decode bX0_addAct 27 = .ok (.iastore, 1) := by decide +kernel
theorem dX0_addAct_28 : decode bX0_addAct 28 = .ok (.aload_n 0, 1) := by decide +kernel
theorem dX0_addAct_29 : decode bX0_addAct 29 = .ok (.getfield 15, 3) := by decide +kernel
theorem dX0_addAct_32 : decode bX0_addAct 32 = .ok (.aload_n 0, 1) := by decide +kernel
theorem dX0_addAct_33 : decode bX0_addAct 33 = .ok (.getfield 24, 3) := by decide +kernel
theorem dX0_addAct_36 : decode bX0_addAct 36 = .ok (.iload_n 2, 1) := by decide +kernel
theorem dX0_addAct_37 : decode bX0_addAct 37 = .ok (.iastore, 1) := by decide +kernel
theorem dX0_addAct_38 : decode bX0_addAct 38 = .ok (.aload_n 0, 1) := by decide +kernel
theorem dX0_addAct_39 : decode bX0_addAct 39 = .ok (.getfield 18, 3) := by decide +kernel
theorem dX0_addAct_42 : decode bX0_addAct 42 = .ok (.aload_n 0, 1) := by decide +kernel
theorem dX0_addAct_43 : decode bX0_addAct 43 = .ok (.getfield 24, 3) := by decide +kernel
theorem dX0_addAct_46 : decode bX0_addAct 46 = .ok (.iload_n 3, 1) := by decide +kernel
theorem dX0_addAct_47 : decode bX0_addAct 47 = .ok (.iastore, 1) := by decide +kernel
theorem dX0_addAct_48 : decode bX0_addAct 48 = .ok (.aload_n 0, 1) := by decide +kernel
theorem dX0_addAct_49 : decode bX0_addAct 49 = .ok (.dup, 1) := by decide +kernel
theorem dX0_addAct_50 : decode bX0_addAct 50 = .ok (.getfield 24, 3) := by decide +kernel
theorem dX0_addAct_53 : decode bX0_addAct 53 = .ok (.iconst 1, 1) := by decide +kernel
theorem dX0_addAct_54 : decode bX0_addAct 54 = .ok (.iadd, 1) := by decide +kernel
theorem dX0_addAct_55 : decode bX0_addAct 55 = .ok (.putfield 24, 3) := by decide +kernel
theorem dX0_addAct_58 : decode bX0_addAct 58 = .ok (.iconst 1, 1) := by decide +kernel
theorem dX0_addAct_59 : decode bX0_addAct 59 = .ok (.ireturn, 1) := by decide +kernel
theorem dX0_takeBack_0 : decode bX0_takeBack 0 = .ok (.aload_n 0, 1) := by decide +kernel
theorem dX0_takeBack_1 : decode bX0_takeBack 1 = .ok (.getfield 24, 3) := by decide +kernel
theorem dX0_takeBack_4 : decode bX0_takeBack 4 = .ok (.iconst 1, 1) := by decide +kernel
theorem dX0_takeBack_5 : decode bX0_takeBack 5 = .ok (.if_icmp .lt 12, 3) := by decide +kernel
theorem dX0_takeBack_8 : decode bX0_takeBack 8 = .ok (.aload_n 0, 1) := by decide +kernel
theorem dX0_takeBack_9 : decode bX0_takeBack 9 = .ok (.getfield 24, 3) := by decide +kernel
theorem dX0_takeBack_12 : decode bX0_takeBack 12 = .ok (.bipush 30, 2) := by decide +kernel
theorem dX0_takeBack_14 : decode bX0_takeBack 14 = .ok (.if_icmp .le 5, 3) := by decide +kernel
theorem dX0_takeBack_17 : decode bX0_takeBack 17 = .ok (.iconst 0, 1) := by decide +kernel
theorem dX0_takeBack_18 : decode bX0_takeBack 18 = .ok (.ireturn, 1) := by decide +kernel
theorem dX0_takeBack_19 : decode bX0_takeBack 19 = .ok (.aload_n 0, 1) := by decide +kernel
theorem dX0_takeBack_20 : decode bX0_takeBack 20 = .ok (.dup, 1) := by decide +kernel
theorem dX0_takeBack_21 : decode bX0_takeBack 21 = .ok (.getfield 24, 3) := by decide +kernel
theorem dX0_takeBack_24 : decode bX0_takeBack 24 = .ok (.iconst 1, 1) := by decide +kernel
theorem dX0_takeBack_25 : decode bX0_takeBack 25 = .ok (.isub, 1) := by decide +kernel
theorem dX0_takeBack_26 : decode bX0_takeBack 26 = .ok (.putfield 24, 3) := by decide +kernel
theorem dX0_takeBack_29 : decode bX0_takeBack 29 = .ok (.aload_n 0, 1) := by decide +kernel
theorem dX0_takeBack_30 : decode bX0_takeBack 30 = .ok (.getfield 9, 3) := by decide +kernel
theorem dX0_takeBack_33 : decode bX0_takeBack 33 = .ok (.aload_n 0, 1) := by decide +kernel
theorem dX0_takeBack_34 : decode bX0_takeBack 34 = .ok (.getfield 24, 3) := by decide +kernel
theorem dX0_takeBack_37 : decode bX0_takeBack 37 = .ok (.iaload, 1) := by decide +kernel
theorem dX0_takeBack_38 : decode bX0_takeBack 38 = .ok (.iconst (-1), 1) := by decide +kernel
theorem dX0_takeBack_39 : decode bX0_takeBack 39 = .ok (.if_icmp .ne 10, 3) := by decide +kernel
theorem dX0_takeBack_42 : decode bX0_takeBack 42 = .ok (.aload_n 0, 1) := by decide +kernel
theorem dX0_takeBack_43 : decode bX0_takeBack 43 = .ok (.invokevirtual 51, 3) := by decide +kernel
theorem dX0_takeBack_46 : decode bX0_takeBack 46 = .ok (.goto 35, 3) := by decide +kernel
theorem dX0_takeBack_49 : decode bX0_takeBack 49 = .ok (.aload_n 0, 1) := by decide +kernel
theorem dX0_takeBack_50 : decode bX0_takeBack 50 = .ok (.aload_n 0, 1) := by decide +kernel
theorem dX0_takeBack_51 : decode bX0_takeBack 51 = .ok (.getfield 9, 3) := by decide +kernel
theorem dX0_takeBack_54 : decode bX0_takeBack 54 = .ok (.aload_n 0, 1) := by decide +kernel
theorem dX0_takeBack_55 : decode bX0_takeBack 55 = .ok (.getfield 24, 3) := by decide +kernel
theorem dX0_takeBack_58 : decode bX0_takeBack 58 = .ok (.iaload, 1) := by decide +kernel
theorem dX0_takeBack_59 : decode bX0_takeBack 59 = .ok (.aload_n 0, 1) := by decide +kernel
theorem dX0_takeBack_60 : decode bX0_takeBack 60 = .ok (.getfield 15, 3) := by decide +kernel
theorem dX0_takeBack_63 : decode bX0_takeBack 63 = .ok (.aload_n 0, 1) := by decide +kernel
theorem dX0_takeBack_64 : decode bX0_takeBack 64 = .ok (.getfield 24, 3) := by decide +kernel
theorem dX0_takeBack_67 : decode bX0_takeBack 67 = .ok (.iaload, 1) := by decide +kernel
theorem dX0_takeBack_68 : decode bX0_takeBack 68 = .ok (.ineg, 1) := by decide +kernel
theorem dX0_takeBack_69 : decode bX0_takeBack 69 = .ok (.aload_n 0, 1) := by decide +kernel
theorem dX0_takeBack_70 : decode bX0_takeBack 70 = .ok (.getfield 18, 3) := by decide +kernel
theorem dX0_takeBack_73 : decode bX0_takeBack 73 = .ok (.aload_n 0, 1) := by decide +kernel
theorem dX0_takeBack_74 : decode bX0_takeBack 74 = .ok (.getfield 24, 3) := by decide +kernel
theorem dX0_takeBack_77 : decode bX0_takeBack 77 = .ok (.iaload, 1) := by decide +kernel
theorem dX0_takeBack_78 : decode bX0_takeBack 78 = .ok (.invokevirtual 47, 3) := by decide +kernel
theorem dX0_takeBack_81 : decode bX0_takeBack 81 = .ok (.iconst 1, 1) := by decide +kernel
theorem dX0_takeBack_82 : decode bX0_takeBack 82 = .ok (.ireturn, 1) := by decide +kernel
theorem dX0_gatherGusts_0 : decode bX0_gatherGusts 0 = .ok (.aload_n 0, 1) := by decide +kernel
theorem dX0_gatherGusts_1 : decode bX0_gatherGusts 1 = .ok (.iconst 0, 1) := by decide +kernel
theorem dX0_gatherGusts_2 : decode bX0_gatherGusts 2 = .ok (.putfield 28, 3) := by decide +kernel
theorem dX0_gatherGusts_5 : decode bX0_gatherGusts 5 = .ok (.iconst 0, 1) := by decide +kernel
theorem dX0_gatherGusts_6 : decode bX0_gatherGusts 6 = .ok (.istore_n 1, 1) := by decide +kernel
theorem dX0_gatherGusts_7 : decode bX0_gatherGusts 7 = .ok (.iload_n 1, 1) := by decide +kernel
theorem dX0_gatherGusts_8 : decode bX0_gatherGusts 8 = .ok (.aload_n 0, 1) := by decide +kernel
theorem dX0_gatherGusts_9 : decode bX0_gatherGusts 9 = .ok (.getfield 24, 3) := by decide +kernel
theorem dX0_gatherGusts_12 : decode bX0_gatherGusts 12 = .ok (.if_icmp .ge 42, 3) := by decide +kernel
theorem dX0_gatherGusts_15 : decode bX0_gatherGusts 15 = .ok (.iload_n 1, 1) := by decide +kernel
theorem dX0_gatherGusts_16 : decode bX0_gatherGusts 16 = .ok (.bipush 30, 2) := by decide +kernel
theorem dX0_gatherGusts_18 : decode bX0_gatherGusts 18 = .ok (.if_icmp .ge 36, 3) := by decide +kernel
theorem dX0_gatherGusts_21 : decode bX0_gatherGusts 21 = .ok (.aload_n 0, 1) := by decide +kernel
theorem dX0_gatherGusts_22 : decode bX0_gatherGusts 22 = .ok (.getfield 9, 3) := by decide +kernel
theorem dX0_gatherGusts_25 : decode bX0_gatherGusts 25 = .ok (.iload_n 1, 1) := by decide +kernel
theorem dX0_gatherGusts_26 : decode bX0_gatherGusts 26 = .ok (.iaload, 1) := by decide +kernel
theorem dX0_gatherGusts_27 : decode bX0_gatherGusts 27 = .ok (.iconst (-1), 1) := by decide +kernel
theorem dX0_gatherGusts_28 : decode bX0_gatherGusts 28 = .ok (.if_icmp .ne 20, 3) := by decide +kernel
theorem dX0_gatherGusts_31 : decode bX0_gatherGusts 31 = .ok (.aload_n 0, 1) := by decide +kernel
theorem dX0_gatherGusts_32 : decode bX0_gatherGusts 32 = .ok (.dup, 1) := by decide +kernel
theorem dX0_gatherGusts_33 : decode bX0_gatherGusts 33 = .ok (.getfield 28, 3) := by decide +kernel
theorem dX0_gatherGusts_36 : decode bX0_gatherGusts 36 = .ok (.iconst 1, 1) := by decide +kernel
theorem dX0_gatherGusts_37 : decode bX0_gatherGusts 37 = .ok (.aload_n 0, 1) := by decide +kernel
theorem dX0_gatherGusts_38 : decode bX0_gatherGusts 38 = .ok (.getfield 18, 3) := by decide +kernel
theorem dX0_gatherGusts_41 : decode bX0_gatherGusts 41 = .ok (.iload_n 1, 1) := by decide +kernel
theorem dX0_gatherGusts_42 : decode bX0_gatherGusts 42 = .ok (.iaload, 1) := by decide +kernel
theorem dX0_gatherGusts_43 : decode bX0_gatherGusts 43 = .ok (.ishl, 1) := by decide +kernel
theorem dX0_gatherGusts_44 : decode bX0_gatherGusts 44 = .ok (.ior, 1) := by decide +kernel
theorem dX0_gatherGusts_45 : decode bX0_gatherGusts 45 = .ok (.putfield 28, 3) := by decide +kernel
theorem dX0_gatherGusts_48 : decode bX0_gatherGusts 48 = .ok (.iinc 1 1, 3) := by decide +kernel
theorem dX0_gatherGusts_51 : decode bX0_gatherGusts 51 = .ok (.goto (-44), 3) := by decide +kernel
theorem dX0_gatherGusts_54 : decode bX0_gatherGusts 54 = .ok (.return_, 1) := by decide +kernel
theorem dX0_heatUp_0 : decode bX0_heatUp 0 = .ok (.iload_n 1, 1) := by decide +kernel
theorem dX0_heatUp_1 : decode bX0_heatUp 1 = .ok (.ifCond .lt 13, 3) := by decide +kernel
theorem dX0_heatUp_4 : decode bX0_heatUp 4 = .ok (.iload_n 1, 1) := by decide +kernel
theorem dX0_heatUp_5 : decode bX0_heatUp 5 = .ok (.bipush 7, 2) := by decide +kernel
theorem dX0_heatUp_7 : decode bX0_heatUp 7 = .ok (.if_icmp .ge 7, 3) := by decide +kernel
theorem dX0_heatUp_10 : decode bX0_heatUp 10 = .ok (.iload_n 3, 1) := by decide +kernel
theorem dX0_heatUp_11 : decode bX0_heatUp 11 = .ok (.ifCond .ge 4, 3) := by decide +kernel
theorem dX0_heatUp_14 : decode bX0_heatUp 14 = .ok (.return_, 1) := by decide +kernel
theorem dX0_heatUp_15 : decode bX0_heatUp 15 = .ok (.iload_n 3, 1) := by decide +kernel
theorem dX0_heatUp_16 : decode bX0_heatUp 16 = .ok (.istore 4, 2) := by decide +kernel
theorem dX0_heatUp_18 : decode bX0_heatUp 18 = .ok (.iload 4, 2) := by decide +kernel
theorem dX0_heatUp_20 : decode bX0_heatUp 20 = .ok (.bipush 15, 2) := by decide +kernel
theorem dX0_heatUp_22 : decode bX0_heatUp 22 = .ok (.if_icmp .ge 25, 3) := by decide +kernel
theorem dX0_heatUp_25 : decode bX0_heatUp 25 = .ok (.aload_n 0, 1) := by decide +kernel
theorem dX0_heatUp_26 : decode bX0_heatUp 26 = .ok (.getfield 21, 3) := by decide +kernel
theorem dX0_heatUp_29 : decode bX0_heatUp 29 = .ok (.iload_n 1, 1) := by decide +kernel
theorem dX0_heatUp_30 : decode bX0_heatUp 30 = .ok (.bipush 15, 2) := by decide +kernel
theorem dX0_heatUp_32 : decode bX0_heatUp 32 = .ok (.imul, 1) := by decide +kernel
theorem dX0_heatUp_33 : decode bX0_heatUp 33 = .ok (.iload 4, 2) := by decide +kernel
theorem dX0_heatUp_35 : decode bX0_heatUp 35 = .ok (.iadd, 1) := by decide +kernel
theorem dX0_heatUp_36 : decode bX0_heatUp 36 = .ok (.dup2, 1) := by decide +kernel
theorem dX0_heatUp_37 : decode bX0_heatUp 37 = .ok (.iaload, 1) := by decide +kernel
theorem dX0_heatUp_38 : decode bX0_heatUp 38 = .ok (.iload_n 2, 1) := by decide +kernel
theorem dX0_heatUp_39 : decode bX0_heatUp 39 = .ok (.iadd, 1) := by decide +kernel
theorem dX0_heatUp_40 : decode bX0_heatUp 40 = .ok (.iastore, 1) := by decide +kernel
theorem dX0_heatUp_41 : decode bX0_heatUp 41 = .ok (.iinc 4 1, 3) := by decide +kernel
theorem dX0_heatUp_44 : decode bX0_heatUp 44 = .ok (.goto (-26), 3) := by decide +kernel
theorem dX0_heatUp_47 : decode bX0_heatUp 47 = .ok (.return_, 1) := by decide +kernel
theorem dX0_leaveOut_0 : decode bX0_leaveOut 0 = .ok (.iload_n 1, 1) := by decide +kernel
theorem dX0_leaveOut_1 : decode bX0_leaveOut 1 = .ok (.ifCond .lt 36, 3) := by decide +kernel
theorem dX0_leaveOut_4 : decode bX0_leaveOut 4 = .ok (.iload_n 1, 1) := by decide +kernel
theorem dX0_leaveOut_5 : decode bX0_leaveOut 5 = .ok (.bipush 7, 2) := by decide +kernel
theorem dX0_leaveOut_7 : decode bX0_leaveOut 7 = .ok (.if_icmp .ge 30, 3) := by decide +kernel
theorem dX0_leaveOut_10 : decode bX0_leaveOut 10 = .ok (.iload_n 1, 1) := by decide +kernel
theorem dX0_leaveOut_11 : decode bX0_leaveOut 11 = .ok (.iconst 1, 1) := by decide +kernel
theorem dX0_leaveOut_12 : decode bX0_leaveOut 12 = .ok (.iadd, 1) := by decide +kernel
theorem dX0_leaveOut_13 : decode bX0_leaveOut 13 = .ok (.bipush 15, 2) := by decide +kernel
theorem dX0_leaveOut_15 : decode bX0_leaveOut 15 = .ok (.imul, 1) := by decide +kernel
theorem dX0_leaveOut_16 : decode bX0_leaveOut 16 = .ok (.istore_n 2, 1) := by decide +kernel
theorem dX0_leaveOut_17 : decode bX0_leaveOut 17 = .ok (.aload_n 0, 1) := by decide +kernel
theorem dX0_leaveOut_18 : decode bX0_leaveOut 18 = .ok (.getfield 21, 3) := by decide +kernel
theorem dX0_leaveOut_21 : decode bX0_leaveOut 21 = .ok (.iload_n 2, 1) := by decide +kernel
theorem dX0_leaveOut_22 : decode bX0_leaveOut 22 = .ok (.aload_n 0, 1) := by decide +kernel
theorem dX0_leaveOut_23 : decode bX0_leaveOut 23 = .ok (.getfield 21, 3) := by decide +kernel
theorem dX0_leaveOut_26 : decode bX0_leaveOut 26 = .ok (.iload_n 1, 1) := by decide +kernel
theorem dX0_leaveOut_27 : decode bX0_leaveOut 27 = .ok (.bipush 15, 2) := by decide +kernel
theorem dX0_leaveOut_29 : decode bX0_leaveOut 29 = .ok (.imul, 1) := by decide +kernel
theorem dX0_leaveOut_30 : decode bX0_leaveOut 30 = .ok (.bipush 105, 2) := by decide +kernel
theorem dX0_leaveOut_32 : decode bX0_leaveOut 32 = .ok (.iload_n 2, 1) := by decide +kernel
theorem dX0_leaveOut_33 : decode bX0_leaveOut 33 = .ok (.isub, 1) := by decide +kernel
theorem dX0_leaveOut_34 : decode bX0_leaveOut 34 = .ok (.invokestatic 37, 3) := by decide +kernel
theorem dX0_leaveOut_37 : decode bX0_leaveOut 37 = .ok (.return_, 1) := by decide +kernel
theorem dX1_init_0 : decode bX1_init 0 = .ok (.aload_n 0, 1) := by decide +kernel
theorem dX1_init_1 : decode bX1_init 1 = .ok (.invokespecial 3, 3) := by decide +kernel
theorem dX1_init_4 : decode bX1_init 4 = .ok (.aload_n 0, 1) := by decide +kernel
theorem dX1_init_5 : decode bX1_init 5 = .ok (.new 9, 3) := by decide +kernel
theorem dX1_init_8 : decode bX1_init 8 = .ok (.dup, 1) := by decide +kernel
theorem dX1_init_9 : decode bX1_init 9 = .ok (.invokespecial 11, 3) := by decide +kernel
theorem dX1_init_12 : decode bX1_init 12 = .ok (.putfield 12, 3) := by decide +kernel
theorem dX1_init_15 : decode bX1_init 15 = .ok (.aload_n 0, 1) := by decide +kernel
theorem dX1_init_16 : decode bX1_init 16 = .ok (.new 18, 3) := by decide +kernel
theorem dX1_init_19 : decode bX1_init 19 = .ok (.dup, 1) := by decide +kernel
theorem dX1_init_20 : decode bX1_init 20 = .ok (.invokespecial 20, 3) := by decide +kernel
theorem dX1_init_23 : decode bX1_init 23 = .ok (.putfield 21, 3) := by decide +kernel
theorem dX1_init_26 : decode bX1_init 26 = .ok (.return_, 1) := by decide +kernel
theorem dX1_copyFrom_0 : decode bX1_copyFrom 0 = .ok (.aload_n 0, 1) := by decide +kernel
theorem dX1_copyFrom_1 : decode bX1_copyFrom 1 = .ok (.getfield 12, 3) := by decide +kernel
theorem dX1_copyFrom_4 : decode bX1_copyFrom 4 = .ok (.aload_n 1, 1) := by decide +kernel
theorem dX1_copyFrom_5 : decode bX1_copyFrom 5 = .ok (.getfield 12, 3) := by decide +kernel
theorem dX1_copyFrom_8 : decode bX1_copyFrom 8 = .ok (.invokevirtual 25, 3) := by decide +kernel
theorem dX1_copyFrom_11 : decode bX1_copyFrom 11 = .ok (.aload_n 0, 1) := by decide +kernel
theorem dX1_copyFrom_12 : decode bX1_copyFrom 12 = .ok (.getfield 21, 3) := by decide +kernel
theorem dX1_copyFrom_15 : decode bX1_copyFrom 15 = .ok (.aload_n 1, 1) := by decide +kernel
theorem dX1_copyFrom_16 : decode bX1_copyFrom 16 = .ok (.getfield 21, 3) := by decide +kernel
theorem dX1_copyFrom_19 : decode bX1_copyFrom 19 = .ok (.invokevirtual 29, 3) := by decide +kernel
theorem dX1_copyFrom_22 : decode bX1_copyFrom 22 = .ok (.return_, 1) := by decide +kernel
theorem dX1_airAt_0 : decode bX1_airAt 0 = .ok (.iload_n 1, 1) := by decide +kernel
theorem dX1_airAt_1 : decode bX1_airAt 1 = .ok (.ifCond .lt 19, 3) := by decide +kernel
theorem dX1_airAt_4 : decode bX1_airAt 4 = .ok (.iload_n 1, 1) := by decide +kernel
theorem dX1_airAt_5 : decode bX1_airAt 5 = .ok (.bipush 7, 2) := by decide +kernel
theorem dX1_airAt_7 : decode bX1_airAt 7 = .ok (.if_icmp .ge 13, 3) := by decide +kernel
theorem dX1_airAt_10 : decode bX1_airAt 10 = .ok (.iload_n 2, 1) := by decide +kernel
theorem dX1_airAt_11 : decode bX1_airAt 11 = .ok (.ifCond .lt 9, 3) := by decide +kernel
theorem dX1_airAt_14 : decode bX1_airAt 14 = .ok (.iload_n 2, 1) := by decide +kernel
theorem dX1_airAt_15 : decode bX1_airAt 15 = .ok (.bipush 15, 2) := by decide +kernel
theorem dX1_airAt_17 : decode bX1_airAt 17 = .ok (.if_icmp .lt 5, 3) := by decide +kernel
theorem dX1_airAt_20 : decode bX1_airAt 20 = .ok (.iconst 0, 1) := by decide +kernel
theorem dX1_airAt_21 : decode bX1_airAt 21 = .ok (.ireturn, 1) := by decide +kernel
theorem dX1_airAt_22 : decode bX1_airAt 22 = .ok (.aload_n 0, 1) := by decide +kernel
theorem dX1_airAt_23 : decode bX1_airAt 23 = .ok (.getfield 12, 3) := by decide +kernel
theorem dX1_airAt_26 : decode bX1_airAt 26 = .ok (.getfield 32, 3) := by decide +kernel
theorem dX1_airAt_29 : decode bX1_airAt 29 = .ok (.iload_n 1, 1) := by decide +kernel
theorem dX1_airAt_30 : decode bX1_airAt 30 = .ok (.iaload, 1) := by decide +kernel
theorem dX1_airAt_31 : decode bX1_airAt 31 = .ok (.aload_n 0, 1) := by decide +kernel
theorem dX1_airAt_32 : decode bX1_airAt 32 = .ok (.getfield 21, 3) := by decide +kernel
theorem dX1_airAt_35 : decode bX1_airAt 35 = .ok (.getfield 36, 3) := by decide +kernel
theorem dX1_airAt_38 : decode bX1_airAt 38 = .ok (.iload_n 1, 1) := by decide +kernel
theorem dX1_airAt_39 : decode bX1_airAt 39 = .ok (.bipush 15, 2) := by decide +kernel
theorem dX1_airAt_41 : decode bX1_airAt 41 = .ok (.imul, 1) := by decide +kernel
theorem dX1_airAt_42 : decode bX1_airAt 42 = .ok (.iload_n 2, 1) := by decide +kernel
theorem dX1_airAt_43 : decode bX1_airAt 43 = .ok (.iadd, 1) := by decide +kernel
theorem dX1_airAt_44 : decode bX1_airAt 44 = .ok (.iaload, 1) := by decide +kernel
theorem dX1_airAt_45 : decode bX1_airAt 45 = .ok (.iadd, 1) := by decide +kernel
theorem dX1_airAt_46 : decode bX1_airAt 46 = .ok (.istore 4, 2) := by decide +kernel
theorem dX1_airAt_48 : decode bX1_airAt 48 = .ok (.iload_n 3, 1) := by decide +kernel
theorem dX1_airAt_49 : decode bX1_airAt 49 = .ok (.iload_n 2, 1) := by decide +kernel
theorem dX1_airAt_50 : decode bX1_airAt 50 = .ok (.ishr, 1) := by decide +kernel
theorem dX1_airAt_51 : decode bX1_airAt 51 = .ok (.iconst 1, 1) := by decide +kernel
theorem dX1_airAt_52 : decode bX1_airAt 52 = .ok (.iand, 1) := by decide +kernel
theorem dX1_airAt_53 : decode bX1_airAt 53 = .ok (.ifCond .eq 7, 3) := by decide +kernel
theorem dX1_airAt_56 : decode bX1_airAt 56 = .ok (.iconst 1, 1) := by decide +kernel
theorem dX1_airAt_57 : decode bX1_airAt 57 = .ok (.goto 4, 3) := by decide +kernel
theorem dX1_airAt_60 : decode bX1_airAt 60 = .ok (.iconst 0, 1) := by decide +kernel
theorem dX1_airAt_61 : decode bX1_airAt 61 = .ok (.istore 5, 2) := by decide +kernel
theorem dX1_airAt_63 : decode bX1_airAt 63 = .ok (.iload 5, 2) := by decide +kernel
theorem dX1_airAt_65 : decode bX1_airAt 65 = .ok (.ifCond .eq 15, 3) := by decide +kernel
theorem dX1_airAt_68 : decode bX1_airAt 68 = .ok (.iload 4, 2) := by decide +kernel
theorem dX1_airAt_70 : decode bX1_airAt 70 = .ok (.bipush 80, 2) := by decide +kernel
theorem dX1_airAt_72 : decode bX1_airAt 72 = .ok (.isub, 1) := by decide +kernel
theorem dX1_airAt_73 : decode bX1_airAt 73 = .ok (.iconst 0, 1) := by decide +kernel
theorem dX1_airAt_74 : decode bX1_airAt 74 = .ok (.invokestatic 39, 3) := by decide +kernel
theorem dX1_airAt_77 : decode bX1_airAt 77 = .ok (.goto 5, 3) := by decide +kernel
theorem dX1_airAt_80 : decode bX1_airAt 80 = .ok (.iload 4, 2) := by decide +kernel
theorem dX1_airAt_82 : decode bX1_airAt 82 = .ok (.ireturn, 1) := by decide +kernel
theorem dX1_leaveOut_0 : decode bX1_leaveOut 0 = .ok (.aload_n 0, 1) := by decide +kernel
theorem dX1_leaveOut_1 : decode bX1_leaveOut 1 = .ok (.getfield 21, 3) := by decide +kernel
theorem dX1_leaveOut_4 : decode bX1_leaveOut 4 = .ok (.iload_n 1, 1) := by decide +kernel
theorem dX1_leaveOut_5 : decode bX1_leaveOut 5 = .ok (.invokevirtual 45, 3) := by decide +kernel
theorem dX1_leaveOut_8 : decode bX1_leaveOut 8 = .ok (.aload_n 0, 1) := by decide +kernel
theorem dX1_leaveOut_9 : decode bX1_leaveOut 9 = .ok (.getfield 12, 3) := by decide +kernel
theorem dX1_leaveOut_12 : decode bX1_leaveOut 12 = .ok (.iload_n 1, 1) := by decide +kernel
theorem dX1_leaveOut_13 : decode bX1_leaveOut 13 = .ok (.invokevirtual 49, 3) := by decide +kernel
theorem dX1_leaveOut_16 : decode bX1_leaveOut 16 = .ok (.return_, 1) := by decide +kernel
theorem dX3_init_0 : decode bX3_init 0 = .ok (.aload_n 0, 1) := by decide +kernel
theorem dX3_init_1 : decode bX3_init 1 = .ok (.invokespecial 1, 3) := by decide +kernel
theorem dX3_init_4 : decode bX3_init 4 = .ok (.aload_n 0, 1) := by decide +kernel
theorem dX3_init_5 : decode bX3_init 5 = .ok (.lconst 0, 1) := by decide +kernel
theorem dX3_init_6 : decode bX3_init 6 = .ok (.putfield 7, 3) := by decide +kernel
theorem dX3_init_9 : decode bX3_init 9 = .ok (.aload_n 0, 1) := by decide +kernel
theorem dX3_init_10 : decode bX3_init 10 = .ok (.lconst 1, 1) := by decide +kernel
theorem dX3_init_11 : decode bX3_init 11 = .ok (.putfield 13, 3) := by decide +kernel
theorem dX3_init_14 : decode bX3_init 14 = .ok (.return_, 1) := by decide +kernel
theorem dX3_put_0 : decode bX3_put 0 = .ok (.lload_n 1, 1) := by decide +kernel
theorem dX3_put_1 : decode bX3_put 1 = .ok (.invokestatic 16, 3) := by decide +kernel
theorem dX3_put_4 : decode bX3_put 4 = .ok (.lload_n 3, 1) := by decide +kernel
theorem dX3_put_5 : decode bX3_put 5 = .ok (.invokestatic 22, 3) := by decide +kernel
theorem dX3_put_8 : decode bX3_put 8 = .ok (.lstore 5, 2) := by decide +kernel
theorem dX3_put_10 : decode bX3_put 10 = .ok (.aload_n 0, 1) := by decide +kernel
theorem dX3_put_11 : decode bX3_put 11 = .ok (.lload 5, 2) := by decide +kernel
theorem dX3_put_13 : decode bX3_put 13 = .ok (.lconst 0, 1) := by decide +kernel
theorem dX3_put_14 : decode bX3_put 14 = .ok (.lcmp, 1) := by decide +kernel
theorem dX3_put_15 : decode bX3_put 15 = .ok (.ifCond .le 10, 3) := by decide +kernel
theorem dX3_put_18 : decode bX3_put 18 = .ok (.lload_n 1, 1) := by decide +kernel
theorem dX3_put_19 : decode bX3_put 19 = .ok (.lload 5, 2) := by decide +kernel
theorem dX3_put_21 : decode bX3_put 21 = .ok (.ldiv, 1) := by decide +kernel
theorem dX3_put_22 : decode bX3_put 22 = .ok (.goto 4, 3) := by decide +kernel
theorem dX3_put_25 : decode bX3_put 25 = .ok (.lload_n 1, 1) := by decide +kernel
theorem dX3_put_26 : decode bX3_put 26 = .ok (.putfield 7, 3) := by decide +kernel
theorem dX3_put_29 : decode bX3_put 29 = .ok (.aload_n 0, 1) := by decide +kernel
theorem dX3_put_30 : decode bX3_put 30 = .ok (.lload 5, 2) := by decide +kernel
theorem dX3_put_32 : decode bX3_put 32 = .ok (.lconst 0, 1) := by decide +kernel
theorem dX3_put_33 : decode bX3_put 33 = .ok (.lcmp, 1) := by decide +kernel
theorem dX3_put_34 : decode bX3_put 34 = .ok (.ifCond .le 10, 3) := by decide +kernel
theorem dX3_put_37 : decode bX3_put 37 = .ok (.lload_n 3, 1) := by decide +kernel
theorem dX3_put_38 : decode bX3_put 38 = .ok (.lload 5, 2) := by decide +kernel
theorem dX3_put_40 : decode bX3_put 40 = .ok (.ldiv, 1) := by decide +kernel
theorem dX3_put_41 : decode bX3_put 41 = .ok (.goto 4, 3) := by decide +kernel
theorem dX3_put_44 : decode bX3_put 44 = .ok (.lload_n 3, 1) := by decide +kernel
theorem dX3_put_45 : decode bX3_put 45 = .ok (.putfield 13, 3) := by decide +kernel
theorem dX3_put_48 : decode bX3_put 48 = .ok (.return_, 1) := by decide +kernel
theorem dX3_part_0 : decode bX3_part 0 = .ok (.iload_n 1, 1) := by decide +kernel
theorem dX3_part_1 : decode bX3_part 1 = .ok (.ifCond .ne 10, 3) := by decide +kernel
theorem dX3_part_4 : decode bX3_part 4 = .ok (.aload_n 0, 1) := by decide +kernel
theorem dX3_part_5 : decode bX3_part 5 = .ok (.getfield 7, 3) := by decide +kernel
theorem dX3_part_8 : decode bX3_part 8 = .ok (.goto 7, 3) := by decide +kernel
theorem dX3_part_11 : decode bX3_part 11 = .ok (.aload_n 0, 1) := by decide +kernel
theorem dX3_part_12 : decode bX3_part 12 = .ok (.getfield 13, 3) := by decide +kernel
theorem dX3_part_15 : decode bX3_part 15 = .ok (.lreturn, 1) := by decide +kernel
theorem dX3_commonDivisor_0 : decode bX3_commonDivisor 0 = .ok (.lload_n 0, 1) := by decide +kernel
theorem dX3_commonDivisor_1 : decode bX3_commonDivisor 1 = .ok (.lstore 4, 2) := by decide +kernel
theorem dX3_commonDivisor_3 : decode bX3_commonDivisor 3 = .ok (.lload_n 2, 1) := by decide +kernel
theorem dX3_commonDivisor_4 : decode bX3_commonDivisor 4 = .ok (.lstore 6, 2) := by decide +kernel
theorem dX3_commonDivisor_6 : decode bX3_commonDivisor 6 = .ok (.iconst 0, 1) := by decide +kernel
theorem dX3_commonDivisor_7 : decode bX3_commonDivisor 7 = .ok (.istore 8, 2) := by decide +kernel
theorem dX3_commonDivisor_9 : decode bX3_commonDivisor 9 = .ok (.iload 8, 2) := by decide +kernel
theorem dX3_commonDivisor_11 : decode bX3_commonDivisor 11 = .ok (.sipush 1000, 3) := by decide +kernel
theorem dX3_commonDivisor_14 : decode bX3_commonDivisor 14 = .ok (.if_icmp .ge 31, 3) := by decide +kernel
theorem dX3_commonDivisor_17 : decode bX3_commonDivisor 17 = .ok (.lload 6, 2) := by decide +kernel
theorem dX3_commonDivisor_19 : decode bX3_commonDivisor 19 = .ok (.lconst 0, 1) := by decide +kernel
theorem dX3_commonDivisor_20 : decode bX3_commonDivisor 20 = .ok (.lcmp, 1) := by decide +kernel
theorem dX3_commonDivisor_21 : decode bX3_commonDivisor 21 = .ok (.ifCond .eq 24, 3) := by decide +kernel
theorem dX3_commonDivisor_24 : decode bX3_commonDivisor 24 = .ok (.lload 4, 2) := by decide +kernel
theorem dX3_commonDivisor_26 : decode bX3_commonDivisor 26 = .ok (.lload 6, 2) := by decide +kernel
theorem dX3_commonDivisor_28 : decode bX3_commonDivisor 28 = .ok (.lrem, 1) := by decide +kernel
theorem dX3_commonDivisor_29 : decode bX3_commonDivisor 29 = .ok (.lstore 9, 2) := by decide +kernel
theorem dX3_commonDivisor_31 : decode bX3_commonDivisor 31 = .ok (.lload 6, 2) := by decide +kernel
theorem dX3_commonDivisor_33 : decode bX3_commonDivisor 33 = .ok (.lstore 4, 2) := by decide +kernel
theorem dX3_commonDivisor_35 : decode bX3_commonDivisor 35 = .ok (.lload 9, 2) := by decide +kernel
theorem dX3_commonDivisor_37 : decode bX3_commonDivisor 37 = .ok (.lstore 6, 2) := by decide +kernel
theorem dX3_commonDivisor_39 : decode bX3_commonDivisor 39 = .ok (.iinc 8 1, 3) := by decide +kernel
theorem dX3_commonDivisor_42 : decode bX3_commonDivisor 42 = .ok (.goto (-33), 3) := by decide +kernel
theorem dX3_commonDivisor_45 : decode bX3_commonDivisor 45 = .ok (.lload 4, 2) := by decide +kernel
theorem dX3_commonDivisor_47 : decode bX3_commonDivisor 47 = .ok (.lreturn, 1) := by decide +kernel
theorem dX4_init_0 : decode bX4_init 0 = .ok (.aload_n 0, 1) := by decide +kernel
theorem dX4_init_1 : decode bX4_init 1 = .ok (.invokespecial 3, 3) := by decide +kernel
theorem dX4_init_4 : decode bX4_init 4 = .ok (.aload_n 0, 1) := by decide +kernel
theorem dX4_init_5 : decode bX4_init 5 = .ok (.new 9, 3) := by decide +kernel
theorem dX4_init_8 : decode bX4_init 8 = .ok (.dup, 1) := by decide +kernel
theorem dX4_init_9 : decode bX4_init 9 = .ok (.invokespecial 11, 3) := by decide +kernel
theorem dX4_init_12 : decode bX4_init 12 = .ok (.putfield 12, 3) := by decide +kernel
theorem dX4_init_15 : decode bX4_init 15 = .ok (.aload_n 0, 1) := by decide +kernel
theorem dX4_init_16 : decode bX4_init 16 = .ok (.aload_n 1, 1) := by decide +kernel
theorem dX4_init_17 : decode bX4_init 17 = .ok (.getfield 18, 3) := by decide +kernel
theorem dX4_init_20 : decode bX4_init 20 = .ok (.putfield 24, 3) := by decide +kernel
theorem dX4_init_23 : decode bX4_init 23 = .ok (.aload_n 0, 1) := by decide +kernel
theorem dX4_init_24 : decode bX4_init 24 = .ok (.new 25, 3) := by decide +kernel
theorem dX4_init_27 : decode bX4_init 27 = .ok (.dup, 1) := by decide +kernel
theorem dX4_init_28 : decode bX4_init 28 = .ok (.aload_n 1, 1) := by decide +kernel
theorem dX4_init_29 : decode bX4_init 29 = .ok (.invokespecial 27, 3) := by decide +kernel
theorem dX4_init_32 : decode bX4_init 32 = .ok (.putfield 30, 3) := by decide +kernel
theorem dX4_init_35 : decode bX4_init 35 = .ok (.return_, 1) := by decide +kernel
theorem dX4_meanUncracked_0 : decode bX4_meanUncracked 0 = .ok (.lconst 0, 1) := by decide +kernel
theorem dX4_meanUncracked_1 : decode bX4_meanUncracked 1 = .ok (.lstore_n 3, 1) := by decide +kernel
theorem dX4_meanUncracked_2 : decode bX4_meanUncracked 2 = .ok (.lconst 1, 1) := by decide +kernel
theorem dX4_meanUncracked_3 : decode bX4_meanUncracked 3 = .ok (.lstore 5, 2) := by decide +kernel
theorem dX4_meanUncracked_5 : decode bX4_meanUncracked 5 = .ok (.iconst 0, 1) := by decide +kernel
theorem dX4_meanUncracked_6 : decode bX4_meanUncracked 6 = .ok (.istore 7, 2) := by decide +kernel
theorem dX4_meanUncracked_8 : decode bX4_meanUncracked 8 = .ok (.iload 7, 2) := by decide +kernel
theorem dX4_meanUncracked_10 : decode bX4_meanUncracked 10 = .ok (.iload_n 2, 1) := by decide +kernel
theorem dX4_meanUncracked_11 : decode bX4_meanUncracked 11 = .ok (.if_icmp .ge 24, 3) := by decide +kernel
theorem dX4_meanUncracked_14 : decode bX4_meanUncracked 14 = .ok (.iload 7, 2) := by decide +kernel
theorem dX4_meanUncracked_16 : decode bX4_meanUncracked 16 = .ok (.bipush 14, 2) := by decide +kernel
theorem dX4_meanUncracked_18 : decode bX4_meanUncracked 18 = .ok (.if_icmp .ge 17, 3) := by decide +kernel
theorem dX4_meanUncracked_21 : decode bX4_meanUncracked 21 = .ok (.lload 5, 2) := by decide +kernel
theorem dX4_meanUncracked_23 : decode bX4_meanUncracked 23 = .ok (.ldc2_w 34, 3) := by decide +kernel
theorem dX4_meanUncracked_26 : decode bX4_meanUncracked 26 = .ok (.lmul, 1) := by decide +kernel
theorem dX4_meanUncracked_27 : decode bX4_meanUncracked 27 = .ok (.lstore 5, 2) := by decide +kernel
theorem dX4_meanUncracked_29 : decode bX4_meanUncracked 29 = .ok (.iinc 7 1, 3) := by decide +kernel
theorem dX4_meanUncracked_32 : decode bX4_meanUncracked 32 = .ok (.goto (-24), 3) := by decide +kernel
theorem dX4_meanUncracked_35 : decode bX4_meanUncracked 35 = .ok (.iconst 0, 1) := by decide +kernel
theorem dX4_meanUncracked_36 : decode bX4_meanUncracked 36 = .ok (.istore 7, 2) := by decide +kernel
theorem dX4_meanUncracked_38 : decode bX4_meanUncracked 38 = .ok (.iload 7, 2) := by decide +kernel
theorem dX4_meanUncracked_40 : decode bX4_meanUncracked 40 = .ok (.iconst 1, 1) := by decide +kernel
theorem dX4_meanUncracked_41 : decode bX4_meanUncracked 41 = .ok (.iload_n 2, 1) := by decide +kernel
theorem dX4_meanUncracked_42 : decode bX4_meanUncracked 42 = .ok (.bipush 14, 2) := by decide +kernel
theorem dX4_meanUncracked_44 : decode bX4_meanUncracked 44 = .ok (.invokestatic 36, 3) := by decide +kernel
theorem dX4_meanUncracked_47 : decode bX4_meanUncracked 47 = .ok (.ishl, 1) := by decide +kernel
theorem dX4_meanUncracked_48 : decode bX4_meanUncracked 48 = .ok (.if_icmp .ge 56, 3) := by decide +kernel
theorem dX4_meanUncracked_51 : decode bX4_meanUncracked 51 = .ok (.aload_n 0, 1) := by decide +kernel
theorem dX4_meanUncracked_52 : decode bX4_meanUncracked 52 = .ok (.iload 7, 2) := by decide +kernel
theorem dX4_meanUncracked_54 : decode bX4_meanUncracked 54 = .ok (.iload_n 2, 1) := by decide +kernel
theorem dX4_meanUncracked_55 : decode bX4_meanUncracked 55 = .ok (.invokevirtual 42, 3) := by decide +kernel
theorem dX4_meanUncracked_58 : decode bX4_meanUncracked 58 = .ok (.lstore 8, 2) := by decide +kernel
theorem dX4_meanUncracked_60 : decode bX4_meanUncracked 60 = .ok (.lload 8, 2) := by decide +kernel
theorem dX4_meanUncracked_62 : decode bX4_meanUncracked 62 = .ok (.lconst 0, 1) := by decide +kernel
theorem dX4_meanUncracked_63 : decode bX4_meanUncracked 63 = .ok (.lcmp, 1) := by decide +kernel
theorem dX4_meanUncracked_64 : decode bX4_meanUncracked 64 = .ok (.ifCond .le 34, 3) := by decide +kernel
theorem dX4_meanUncracked_67 : decode bX4_meanUncracked 67 = .ok (.aload_n 0, 1) := by decide +kernel
theorem dX4_meanUncracked_68 : decode bX4_meanUncracked 68 = .ok (.getfield 30, 3) := by decide +kernel
theorem dX4_meanUncracked_71 : decode bX4_meanUncracked 71 = .ok (.iload 7, 2) := by decide +kernel
theorem dX4_meanUncracked_73 : decode bX4_meanUncracked 73 = .ok (.iload_n 2, 1) := by decide +kernel
theorem dX4_meanUncracked_74 : decode bX4_meanUncracked 74 = .ok (.iload_n 1, 1) := by decide +kernel
theorem dX4_meanUncracked_75 : decode bX4_meanUncracked 75 = .ok (.invokevirtual 46, 3) := by decide +kernel
theorem dX4_meanUncracked_78 : decode bX4_meanUncracked 78 = .ok (.lload_n 3, 1) := by decide +kernel
theorem dX4_meanUncracked_79 : decode bX4_meanUncracked 79 = .ok (.lload 8, 2) := by decide +kernel
theorem dX4_meanUncracked_81 : decode bX4_meanUncracked 81 = .ok (.aload_n 0, 1) := by decide +kernel
theorem dX4_meanUncracked_82 : decode bX4_meanUncracked 82 = .ok (.getfield 30, 3) := by decide +kernel
theorem dX4_meanUncracked_85 : decode bX4_meanUncracked 85 = .ok (.iload_n 2, 1) := by decide +kernel
theorem dX4_meanUncracked_86 : decode bX4_meanUncracked 86 = .ok (.invokevirtual 50, 3) := by decide +kernel
theorem dX4_meanUncracked_89 : decode bX4_meanUncracked 89 = .ok (.iload_n 1, 1) := by decide +kernel
theorem dX4_meanUncracked_90 : decode bX4_meanUncracked 90 = .ok (.iand, 1) := by decide +kernel
theorem dX4_meanUncracked_91 : decode bX4_meanUncracked 91 = .ok (.invokestatic 54, 3) := by decide +kernel
theorem dX4_meanUncracked_94 : decode bX4_meanUncracked 94 = .ok (.i2l, 1) := by decide +kernel
theorem dX4_meanUncracked_95 : decode bX4_meanUncracked 95 = .ok (.lmul, 1) := by decide +kernel
theorem dX4_meanUncracked_96 : decode bX4_meanUncracked 96 = .ok (.ladd, 1) := by decide +kernel
theorem dX4_meanUncracked_97 : decode bX4_meanUncracked 97 = .ok (.lstore_n 3, 1) := by decide +kernel
theorem dX4_meanUncracked_98 : decode bX4_meanUncracked 98 = .ok (.iinc 7 1, 3) := by decide +kernel
theorem dX4_meanUncracked_101 : decode bX4_meanUncracked 101 = .ok (.goto (-63), 3) := by decide +kernel
theorem dX4_meanUncracked_104 : decode bX4_meanUncracked 104 = .ok (.aload_n 0, 1) := by decide +kernel
theorem dX4_meanUncracked_105 : decode bX4_meanUncracked 105 = .ok (.getfield 12, 3) := by decide +kernel
theorem dX4_meanUncracked_108 : decode bX4_meanUncracked 108 = .ok (.lload_n 3, 1) := by decide +kernel
theorem dX4_meanUncracked_109 : decode bX4_meanUncracked 109 = .ok (.lload 5, 2) := by decide +kernel
theorem dX4_meanUncracked_111 : decode bX4_meanUncracked 111 = .ok (.invokevirtual 59, 3) := by decide +kernel
theorem dX4_meanUncracked_114 : decode bX4_meanUncracked 114 = .ok (.aload_n 0, 1) := by decide +kernel
theorem dX4_meanUncracked_115 : decode bX4_meanUncracked 115 = .ok (.getfield 12, 3) := by decide +kernel
theorem dX4_meanUncracked_118 : decode bX4_meanUncracked 118 = .ok (.areturn, 1) := by decide +kernel
theorem dX4_weightOf_0 : decode bX4_weightOf 0 = .ok (.lconst 1, 1) := by decide +kernel
theorem dX4_weightOf_1 : decode bX4_weightOf 1 = .ok (.lstore_n 3, 1) := by decide +kernel
theorem dX4_weightOf_2 : decode bX4_weightOf 2 = .ok (.iconst 0, 1) := by decide +kernel
theorem dX4_weightOf_3 : decode bX4_weightOf 3 = .ok (.istore 5, 2) := by decide +kernel
theorem dX4_weightOf_5 : decode bX4_weightOf 5 = .ok (.iload 5, 2) := by decide +kernel
theorem dX4_weightOf_7 : decode bX4_weightOf 7 = .ok (.iload_n 2, 1) := by decide +kernel
theorem dX4_weightOf_8 : decode bX4_weightOf 8 = .ok (.if_icmp .ge 62, 3) := by decide +kernel
theorem dX4_weightOf_11 : decode bX4_weightOf 11 = .ok (.iload 5, 2) := by decide +kernel
theorem dX4_weightOf_13 : decode bX4_weightOf 13 = .ok (.bipush 14, 2) := by decide +kernel
theorem dX4_weightOf_15 : decode bX4_weightOf 15 = .ok (.if_icmp .ge 55, 3) := by decide +kernel
theorem dX4_weightOf_18 : decode bX4_weightOf 18 = .ok (.iload_n 1, 1) := by decide +kernel
theorem dX4_weightOf_19 : decode bX4_weightOf 19 = .ok (.iload 5, 2) := by decide +kernel
theorem dX4_weightOf_21 : decode bX4_weightOf 21 = .ok (.ishr, 1) := by decide +kernel
theorem dX4_weightOf_22 : decode bX4_weightOf 22 = .ok (.iconst 1, 1) := by decide +kernel
theorem dX4_weightOf_23 : decode bX4_weightOf 23 = .ok (.iand, 1) := by decide +kernel
theorem dX4_weightOf_24 : decode bX4_weightOf 24 = .ok (.ifCond .eq 7, 3) := by decide +kernel
theorem dX4_weightOf_27 : decode bX4_weightOf 27 = .ok (.iconst 1, 1) := by decide +kernel
theorem dX4_weightOf_28 : decode bX4_weightOf 28 = .ok (.goto 4, 3) := by decide +kernel
theorem dX4_weightOf_31 : decode bX4_weightOf 31 = .ok (.iconst 0, 1) := by decide +kernel
theorem dX4_weightOf_32 : decode bX4_weightOf 32 = .ok (.istore 6, 2) := by decide +kernel
theorem dX4_weightOf_34 : decode bX4_weightOf 34 = .ok (.lload_n 3, 1) := by decide +kernel
theorem dX4_weightOf_35 : decode bX4_weightOf 35 = .ok (.iload 6, 2) := by decide +kernel
theorem dX4_weightOf_37 : decode bX4_weightOf 37 = .ok (.ifCond .eq 14, 3) := by decide +kernel
theorem dX4_weightOf_40 : decode bX4_weightOf 40 = .ok (.aload_n 0, 1) := by decide +kernel
theorem dX4_weightOf_41 : decode bX4_weightOf 41 = .ok (.getfield 24, 3) := by decide +kernel
theorem dX4_weightOf_44 : decode bX4_weightOf 44 = .ok (.getfield 63, 3) := by decide +kernel
theorem dX4_weightOf_47 : decode bX4_weightOf 47 = .ok (.i2l, 1) := by decide +kernel
theorem dX4_weightOf_48 : decode bX4_weightOf 48 = .ok (.goto 14, 3) := by decide +kernel
theorem dX4_weightOf_51 : decode bX4_weightOf 51 = .ok (.bipush 10, 2) := by decide +kernel
theorem dX4_weightOf_53 : decode bX4_weightOf 53 = .ok (.aload_n 0, 1) := by decide +kernel
theorem dX4_weightOf_54 : decode bX4_weightOf 54 = .ok (.getfield 24, 3) := by decide +kernel
theorem dX4_weightOf_57 : decode bX4_weightOf 57 = .ok (.getfield 63, 3) := by decide +kernel
theorem dX4_weightOf_60 : decode bX4_weightOf 60 = .ok (.isub, 1) := by decide +kernel
theorem dX4_weightOf_61 : decode bX4_weightOf 61 = .ok (.i2l, 1) := by decide +kernel
theorem dX4_weightOf_62 : decode bX4_weightOf 62 = .ok (.lmul, 1) := by decide +kernel
theorem dX4_weightOf_63 : decode bX4_weightOf 63 = .ok (.lstore_n 3, 1) := by decide +kernel
theorem dX4_weightOf_64 : decode bX4_weightOf 64 = .ok (.iinc 5 1, 3) := by decide +kernel
theorem dX4_weightOf_67 : decode bX4_weightOf 67 = .ok (.goto (-62), 3) := by decide +kernel
theorem dX4_weightOf_70 : decode bX4_weightOf 70 = .ok (.lload_n 3, 1) := by decide +kernel
theorem dX4_weightOf_71 : decode bX4_weightOf 71 = .ok (.lreturn, 1) := by decide +kernel
theorem dX4_draughtsFrom_0 : decode bX4_draughtsFrom 0 = .ok (.lload_n 1, 1) := by decide +kernel
theorem dX4_draughtsFrom_1 : decode bX4_draughtsFrom 1 = .ok (.lstore_n 3, 1) := by decide +kernel
theorem dX4_draughtsFrom_2 : decode bX4_draughtsFrom 2 = .ok (.iconst 0, 1) := by decide +kernel
theorem dX4_draughtsFrom_3 : decode bX4_draughtsFrom 3 = .ok (.istore 5, 2) := by decide +kernel
theorem dX4_draughtsFrom_5 : decode bX4_draughtsFrom 5 = .ok (.iconst 0, 1) := by decide +kernel
theorem dX4_draughtsFrom_6 : decode bX4_draughtsFrom 6 = .ok (.istore 6, 2) := by decide +kernel
theorem dX4_draughtsFrom_8 : decode bX4_draughtsFrom 8 = .ok (.iload 6, 2) := by decide +kernel
theorem dX4_draughtsFrom_10 : decode bX4_draughtsFrom 10 = .ok (.aload_n 0, 1) := by decide +kernel
theorem dX4_draughtsFrom_11 : decode bX4_draughtsFrom 11 = .ok (.getfield 24, 3) := by decide +kernel
theorem dX4_draughtsFrom_14 : decode bX4_draughtsFrom 14 = .ok (.getfield 69, 3) := by decide +kernel
theorem dX4_draughtsFrom_17 : decode bX4_draughtsFrom 17 = .ok (.if_icmp .ge 60, 3) := by decide +kernel
theorem dX4_draughtsFrom_20 : decode bX4_draughtsFrom 20 = .ok (.iload 6, 2) := by decide +kernel
theorem dX4_draughtsFrom_22 : decode bX4_draughtsFrom 22 = .ok (.bipush 14, 2) := by decide +kernel
theorem dX4_draughtsFrom_24 : decode bX4_draughtsFrom 24 = .ok (.if_icmp .ge 53, 3) := by decide +kernel
theorem dX4_draughtsFrom_27 : decode bX4_draughtsFrom 27 = .ok (.ldc2_w 72, 3) := by decide +kernel
theorem dX4_draughtsFrom_30 : decode bX4_draughtsFrom 30 = .ok (.lload_n 3, 1) := by decide +kernel
theorem dX4_draughtsFrom_31 : decode bX4_draughtsFrom 31 = .ok (.lmul, 1) := by decide +kernel
theorem dX4_draughtsFrom_32 : decode bX4_draughtsFrom 32 = .ok (.ldc2_w 74, 3) := by decide +kernel
theorem dX4_draughtsFrom_35 : decode bX4_draughtsFrom 35 = .ok (.ladd, 1) := by decide +kernel
theorem dX4_draughtsFrom_36 : decode bX4_draughtsFrom 36 = .ok (.ldc2_w 76, 3) := by decide +kernel
theorem dX4_draughtsFrom_39 : decode bX4_draughtsFrom 39 = .ok (.lrem, 1) := by decide +kernel
theorem dX4_draughtsFrom_40 : decode bX4_draughtsFrom 40 = .ok (.lstore_n 3, 1) := by decide +kernel
theorem dX4_draughtsFrom_41 : decode bX4_draughtsFrom 41 = .ok (.lload_n 3, 1) := by decide +kernel
theorem dX4_draughtsFrom_42 : decode bX4_draughtsFrom 42 = .ok (.ldc2_w 78, 3) := by decide +kernel
theorem dX4_draughtsFrom_45 : decode bX4_draughtsFrom 45 = .ok (.ldiv, 1) := by decide +kernel
theorem dX4_draughtsFrom_46 : decode bX4_draughtsFrom 46 = .ok (.ldc2_w 34, 3) := by decide +kernel
theorem dX4_draughtsFrom_49 : decode bX4_draughtsFrom 49 = .ok (.lrem, 1) := by decide +kernel
theorem dX4_draughtsFrom_50 : decode bX4_draughtsFrom 50 = .ok (.aload_n 0, 1) := by decide +kernel
theorem dX4_draughtsFrom_51 : decode bX4_draughtsFrom 51 = .ok (.getfield 24, 3) := by decide +kernel
theorem dX4_draughtsFrom_54 : decode bX4_draughtsFrom 54 = .ok (.getfield 63, 3) := by decide +kernel
theorem dX4_draughtsFrom_57 : decode bX4_draughtsFrom 57 = .ok (.i2l, 1) := by decide +kernel
theorem dX4_draughtsFrom_58 : decode bX4_draughtsFrom 58 = .ok (.lcmp, 1) := by decide +kernel
theorem dX4_draughtsFrom_59 : decode bX4_draughtsFrom 59 = .ok (.ifCond .ge 12, 3) := by decide +kernel
theorem dX4_draughtsFrom_62 : decode bX4_draughtsFrom 62 = .ok (.iload 5, 2) := by decide +kernel
theorem dX4_draughtsFrom_64 : decode bX4_draughtsFrom 64 = .ok (.iconst 1, 1) := by decide +kernel
theorem dX4_draughtsFrom_65 : decode bX4_draughtsFrom 65 = .ok (.iload 6, 2) := by decide +kernel
theorem dX4_draughtsFrom_67 : decode bX4_draughtsFrom 67 = .ok (.ishl, 1) := by decide +kernel
theorem dX4_draughtsFrom_68 : decode bX4_draughtsFrom 68 = .ok (.ior, 1) := by decide +kernel
theorem dX4_draughtsFrom_69 : decode bX4_draughtsFrom 69 = .ok (.istore 5, 2) := by decide +kernel
theorem dX4_draughtsFrom_71 : decode bX4_draughtsFrom 71 = .ok (.iinc 6 1, 3) := by decide +kernel
theorem dX4_draughtsFrom_74 : decode bX4_draughtsFrom 74 = .ok (.goto (-66), 3) := by decide +kernel
theorem dX4_draughtsFrom_77 : decode bX4_draughtsFrom 77 = .ok (.iload 5, 2) := by decide +kernel
theorem dX4_draughtsFrom_79 : decode bX4_draughtsFrom 79 = .ok (.ireturn, 1) := by decide +kernel
theorem dX4_soundFrom_0 : decode bX4_soundFrom 0 = .ok (.aload_n 0, 1) := by decide +kernel
theorem dX4_soundFrom_1 : decode bX4_soundFrom 1 = .ok (.getfield 30, 3) := by decide +kernel
theorem dX4_soundFrom_4 : decode bX4_soundFrom 4 = .ok (.aload_n 0, 1) := by decide +kernel
theorem dX4_soundFrom_5 : decode bX4_soundFrom 5 = .ok (.lload_n 1, 1) := by decide +kernel
theorem dX4_soundFrom_6 : decode bX4_soundFrom 6 = .ok (.invokevirtual 80, 3) := by decide +kernel
theorem dX4_soundFrom_9 : decode bX4_soundFrom 9 = .ok (.aload_n 0, 1) := by decide +kernel
theorem dX4_soundFrom_10 : decode bX4_soundFrom 10 = .ok (.getfield 24, 3) := by decide +kernel
theorem dX4_soundFrom_13 : decode bX4_soundFrom 13 = .ok (.getfield 69, 3) := by decide +kernel
theorem dX4_soundFrom_16 : decode bX4_soundFrom 16 = .ok (.bipush 63, 2) := by decide +kernel
theorem dX4_soundFrom_18 : decode bX4_soundFrom 18 = .ok (.invokevirtual 46, 3) := by decide +kernel
theorem dX4_soundFrom_21 : decode bX4_soundFrom 21 = .ok (.aload_n 0, 1) := by decide +kernel
theorem dX4_soundFrom_22 : decode bX4_soundFrom 22 = .ok (.getfield 30, 3) := by decide +kernel
theorem dX4_soundFrom_25 : decode bX4_soundFrom 25 = .ok (.invokevirtual 84, 3) := by decide +kernel
theorem dX4_soundFrom_28 : decode bX4_soundFrom 28 = .ok (.ireturn, 1) := by decide +kernel
theorem dX4_timesSound_0 : decode bX4_timesSound 0 = .ok (.iconst 0, 1) := by decide +kernel
theorem dX4_timesSound_1 : decode bX4_timesSound 1 = .ok (.istore 4, 2) := by decide +kernel
theorem dX4_timesSound_3 : decode bX4_timesSound 3 = .ok (.iconst 0, 1) := by decide +kernel
theorem dX4_timesSound_4 : decode bX4_timesSound 4 = .ok (.istore 5, 2) := by decide +kernel
theorem dX4_timesSound_6 : decode bX4_timesSound 6 = .ok (.iload 5, 2) := by decide +kernel
theorem dX4_timesSound_8 : decode bX4_timesSound 8 = .ok (.iload_n 2, 1) := by decide +kernel
theorem dX4_timesSound_9 : decode bX4_timesSound 9 = .ok (.if_icmp .ge 60, 3) := by decide +kernel
theorem dX4_timesSound_12 : decode bX4_timesSound 12 = .ok (.iload 5, 2) := by decide +kernel
theorem dX4_timesSound_14 : decode bX4_timesSound 14 = .ok (.bipush 20, 2) := by decide +kernel
theorem dX4_timesSound_16 : decode bX4_timesSound 16 = .ok (.if_icmp .ge 53, 3) := by decide +kernel
theorem dX4_timesSound_19 : decode bX4_timesSound 19 = .ok (.aload_n 0, 1) := by decide +kernel
theorem dX4_timesSound_20 : decode bX4_timesSound 20 = .ok (.getfield 30, 3) := by decide +kernel
theorem dX4_timesSound_23 : decode bX4_timesSound 23 = .ok (.aload_n 0, 1) := by decide +kernel
theorem dX4_timesSound_24 : decode bX4_timesSound 24 = .ok (.iload_n 1, 1) := by decide +kernel
theorem dX4_timesSound_25 : decode bX4_timesSound 25 = .ok (.i2l, 1) := by decide +kernel
theorem dX4_timesSound_26 : decode bX4_timesSound 26 = .ok (.iload 5, 2) := by decide +kernel
theorem dX4_timesSound_28 : decode bX4_timesSound 28 = .ok (.i2l, 1) := by decide +kernel
theorem dX4_timesSound_29 : decode bX4_timesSound 29 = .ok (.ladd, 1) := by decide +kernel
theorem dX4_timesSound_30 : decode bX4_timesSound 30 = .ok (.invokevirtual 80, 3) := by decide +kernel
theorem dX4_timesSound_33 : decode bX4_timesSound 33 = .ok (.aload_n 0, 1) := by decide +kernel
theorem dX4_timesSound_34 : decode bX4_timesSound 34 = .ok (.getfield 24, 3) := by decide +kernel
theorem dX4_timesSound_37 : decode bX4_timesSound 37 = .ok (.getfield 69, 3) := by decide +kernel
theorem dX4_timesSound_40 : decode bX4_timesSound 40 = .ok (.iconst 1, 1) := by decide +kernel
theorem dX4_timesSound_41 : decode bX4_timesSound 41 = .ok (.iload_n 3, 1) := by decide +kernel
theorem dX4_timesSound_42 : decode bX4_timesSound 42 = .ok (.ishl, 1) := by decide +kernel
theorem dX4_timesSound_43 : decode bX4_timesSound 43 = .ok (.invokevirtual 46, 3) := by decide +kernel
theorem dX4_timesSound_46 : decode bX4_timesSound 46 = .ok (.aload_n 0, 1) := by decide +kernel
theorem dX4_timesSound_47 : decode bX4_timesSound 47 = .ok (.getfield 30, 3) := by decide +kernel
theorem dX4_timesSound_50 : decode bX4_timesSound 50 = .ok (.invokevirtual 84, 3) := by decide +kernel
theorem dX4_timesSound_53 : decode bX4_timesSound 53 = .ok (.iload_n 3, 1) := by decide +kernel
theorem dX4_timesSound_54 : decode bX4_timesSound 54 = .ok (.ishr, 1) := by decide +kernel
theorem dX4_timesSound_55 : decode bX4_timesSound 55 = .ok (.iconst 1, 1) := by decide +kernel
theorem dX4_timesSound_56 : decode bX4_timesSound 56 = .ok (.iand, 1) := by decide +kernel
theorem dX4_timesSound_57 : decode bX4_timesSound 57 = .ok (.ifCond .eq 6, 3) := by decide +kernel
theorem dX4_timesSound_60 : decode bX4_timesSound 60 = .ok (.iinc 4 1, 3) := by decide +kernel
theorem dX4_timesSound_63 : decode bX4_timesSound 63 = .ok (.iinc 5 1, 3) := by decide +kernel
theorem dX4_timesSound_66 : decode bX4_timesSound 66 = .ok (.goto (-60), 3) := by decide +kernel
theorem dX4_timesSound_69 : decode bX4_timesSound 69 = .ok (.iload 4, 2) := by decide +kernel
theorem dX4_timesSound_71 : decode bX4_timesSound 71 = .ok (.ireturn, 1) := by decide +kernel
theorem dX5_init_0 : decode bX5_init 0 = .ok (.aload_n 0, 1) := by decide +kernel
theorem dX5_init_1 : decode bX5_init 1 = .ok (.invokespecial 3, 3) := by decide +kernel
theorem dX5_init_4 : decode bX5_init 4 = .ok (.aload_n 0, 1) := by decide +kernel
theorem dX5_init_5 : decode bX5_init 5 = .ok (.bipush 7, 2) := by decide +kernel
theorem dX5_init_7 : decode bX5_init 7 = .ok (.newarray .int, 2) := by decide +kernel
theorem dX5_init_9 : decode bX5_init 9 = .ok (.putfield 9, 3) := by decide +kernel
theorem dX5_init_12 : decode bX5_init 12 = .ok (.aload_n 0, 1) := by decide +kernel
theorem dX5_init_13 : decode bX5_init 13 = .ok (.bipush 6, 2) := by decide +kernel
theorem dX5_init_15 : decode bX5_init 15 = .ok (.newarray .int, 2) := by decide +kernel
theorem dX5_init_17 : decode bX5_init 17 = .ok (.putfield 15, 3) := by decide +kernel
theorem dX5_init_20 : decode bX5_init 20 = .ok (.aload_n 0, 1) := by decide +kernel
theorem dX5_init_21 : decode bX5_init 21 = .ok (.bipush 6, 2) := by decide +kernel
theorem dX5_init_23 : decode bX5_init 23 = .ok (.newarray .int, 2) := by decide +kernel
theorem dX5_init_25 : decode bX5_init 25 = .ok (.putfield 18, 3) := by decide +kernel
theorem dX5_init_28 : decode bX5_init 28 = .ok (.aload_n 0, 1) := by decide +kernel
theorem dX5_init_29 : decode bX5_init 29 = .ok (.bipush 6, 2) := by decide +kernel
theorem dX5_init_31 : decode bX5_init 31 = .ok (.newarray .int, 2) := by decide +kernel
theorem dX5_init_33 : decode bX5_init 33 = .ok (.putfield 21, 3) := by decide +kernel
theorem dX5_init_36 : decode bX5_init 36 = .ok (.aload_n 0, 1) := by decide +kernel
theorem dX5_init_37 : decode bX5_init 37 = .ok (.bipush 6, 2) := by decide +kernel
theorem dX5_init_39 : decode bX5_init 39 = .ok (.newarray .int, 2) := by decide +kernel
theorem dX5_init_41 : decode bX5_init 41 = .ok (.putfield 24, 3) := by decide +kernel
theorem dX5_init_44 : decode bX5_init 44 = .ok (.return_, 1) := by decide +kernel
theorem dX5_clear_0 : decode bX5_clear 0 = .ok (.aload_n 0, 1) := by decide +kernel
theorem dX5_clear_1 : decode bX5_clear 1 = .ok (.iconst 0, 1) := by decide +kernel
theorem dX5_clear_2 : decode bX5_clear 2 = .ok (.putfield 27, 3) := by decide +kernel
theorem dX5_clear_5 : decode bX5_clear 5 = .ok (.aload_n 0, 1) := by decide +kernel
theorem dX5_clear_6 : decode bX5_clear 6 = .ok (.iconst 0, 1) := by decide +kernel
theorem dX5_clear_7 : decode bX5_clear 7 = .ok (.putfield 31, 3) := by decide +kernel
theorem dX5_clear_10 : decode bX5_clear 10 = .ok (.aload_n 0, 1) := by decide +kernel
theorem dX5_clear_11 : decode bX5_clear 11 = .ok (.iconst 0, 1) := by decide +kernel
theorem dX5_clear_12 : decode bX5_clear 12 = .ok (.putfield 34, 3) := by decide +kernel
theorem dX5_clear_15 : decode bX5_clear 15 = .ok (.aload_n 0, 1) := by decide +kernel
theorem dX5_clear_16 : decode bX5_clear 16 = .ok (.iconst 0, 1) := by decide +kernel
theorem dX5_clear_17 : decode bX5_clear 17 = .ok (.putfield 37, 3) := by decide +kernel
theorem dX5_clear_20 : decode bX5_clear 20 = .ok (.aload_n 0, 1) := by decide +kernel
theorem dX5_clear_21 : decode bX5_clear 21 = .ok (.iconst 0, 1) := by decide +kernel
theorem dX5_clear_22 : decode bX5_clear 22 = .ok (.putfield 40, 3) := by decide +kernel
theorem dX5_clear_25 : decode bX5_clear 25 = .ok (.aload_n 0, 1) := by decide +kernel
theorem dX5_clear_26 : decode bX5_clear 26 = .ok (.iconst 0, 1) := by decide +kernel
theorem dX5_clear_27 : decode bX5_clear 27 = .ok (.putfield 43, 3) := by decide +kernel
theorem dX5_clear_30 : decode bX5_clear 30 = .ok (.aload_n 0, 1) := by decide +kernel
theorem dX5_clear_31 : decode bX5_clear 31 = .ok (.iconst 0, 1) := by decide +kernel
theorem dX5_clear_32 : decode bX5_clear 32 = .ok (.putfield 46, 3) := by decide +kernel
theorem dX5_clear_35 : decode bX5_clear 35 = .ok (.aload_n 0, 1) := by decide +kernel
theorem dX5_clear_36 : decode bX5_clear 36 = .ok (.iconst 0, 1) := by decide +kernel
theorem dX5_clear_37 : decode bX5_clear 37 = .ok (.putfield 49, 3) := by decide +kernel
theorem dX5_clear_40 : decode bX5_clear 40 = .ok (.return_, 1) := by decide +kernel
theorem dX5_copyFrom_0 : decode bX5_copyFrom 0 = .ok (.aload_n 0, 1) := by decide +kernel
theorem dX5_copyFrom_1 : decode bX5_copyFrom 1 = .ok (.aload_n 1, 1) := by decide +kernel
theorem dX5_copyFrom_2 : decode bX5_copyFrom 2 = .ok (.getfield 27, 3) := by decide +kernel
theorem dX5_copyFrom_5 : decode bX5_copyFrom 5 = .ok (.putfield 27, 3) := by decide +kernel
theorem dX5_copyFrom_8 : decode bX5_copyFrom 8 = .ok (.aload_n 0, 1) := by decide +kernel
theorem dX5_copyFrom_9 : decode bX5_copyFrom 9 = .ok (.aload_n 1, 1) := by decide +kernel
theorem dX5_copyFrom_10 : decode bX5_copyFrom 10 = .ok (.getfield 31, 3) := by decide +kernel
theorem dX5_copyFrom_13 : decode bX5_copyFrom 13 = .ok (.putfield 31, 3) := by decide +kernel
theorem dX5_copyFrom_16 : decode bX5_copyFrom 16 = .ok (.aload_n 0, 1) := by decide +kernel
theorem dX5_copyFrom_17 : decode bX5_copyFrom 17 = .ok (.aload_n 1, 1) := by decide +kernel
theorem dX5_copyFrom_18 : decode bX5_copyFrom 18 = .ok (.getfield 34, 3) := by decide +kernel
theorem dX5_copyFrom_21 : decode bX5_copyFrom 21 = .ok (.putfield 34, 3) := by decide +kernel
theorem dX5_copyFrom_24 : decode bX5_copyFrom 24 = .ok (.aload_n 0, 1) := by decide +kernel
theorem dX5_copyFrom_25 : decode bX5_copyFrom 25 = .ok (.aload_n 1, 1) := by decide +kernel
theorem dX5_copyFrom_26 : decode bX5_copyFrom 26 = .ok (.getfield 37, 3) := by decide +kernel
theorem dX5_copyFrom_29 : decode bX5_copyFrom 29 = .ok (.putfield 37, 3) := by decide +kernel
theorem dX5_copyFrom_32 : decode bX5_copyFrom 32 = .ok (.aload_n 0, 1) := by decide +kernel
theorem dX5_copyFrom_33 : decode bX5_copyFrom 33 = .ok (.aload_n 1, 1) := by decide +kernel
theorem dX5_copyFrom_34 : decode bX5_copyFrom 34 = .ok (.getfield 40, 3) := by decide +kernel
theorem dX5_copyFrom_37 : decode bX5_copyFrom 37 = .ok (.putfield 40, 3) := by decide +kernel
theorem dX5_copyFrom_40 : decode bX5_copyFrom 40 = .ok (.aload_n 0, 1) := by decide +kernel
theorem dX5_copyFrom_41 : decode bX5_copyFrom 41 = .ok (.aload_n 1, 1) := by decide +kernel
theorem dX5_copyFrom_42 : decode bX5_copyFrom 42 = .ok (.getfield 43, 3) := by decide +kernel
theorem dX5_copyFrom_45 : decode bX5_copyFrom 45 = .ok (.putfield 43, 3) := by decide +kernel
theorem dX5_copyFrom_48 : decode bX5_copyFrom 48 = .ok (.aload_n 0, 1) := by decide +kernel
theorem dX5_copyFrom_49 : decode bX5_copyFrom 49 = .ok (.aload_n 1, 1) := by decide +kernel
theorem dX5_copyFrom_50 : decode bX5_copyFrom 50 = .ok (.getfield 46, 3) := by decide +kernel
theorem dX5_copyFrom_53 : decode bX5_copyFrom 53 = .ok (.putfield 46, 3) := by decide +kernel
theorem dX5_copyFrom_56 : decode bX5_copyFrom 56 = .ok (.aload_n 0, 1) := by decide +kernel
theorem dX5_copyFrom_57 : decode bX5_copyFrom 57 = .ok (.aload_n 1, 1) := by decide +kernel
theorem dX5_copyFrom_58 : decode bX5_copyFrom 58 = .ok (.getfield 49, 3) := by decide +kernel
theorem dX5_copyFrom_61 : decode bX5_copyFrom 61 = .ok (.putfield 49, 3) := by decide +kernel
theorem dX5_copyFrom_64 : decode bX5_copyFrom 64 = .ok (.aload_n 1, 1) := by decide +kernel
theorem dX5_copyFrom_65 : decode bX5_copyFrom 65 = .ok (.getfield 9, 3) := by decide +kernel
theorem dX5_copyFrom_68 : decode bX5_copyFrom 68 = .ok (.iconst 0, 1) := by decide +kernel
theorem dX5_copyFrom_69 : decode bX5_copyFrom 69 = .ok (.aload_n 0, 1) := by decide +kernel
theorem dX5_copyFrom_70 : decode bX5_copyFrom 70 = .ok (.getfield 9, 3) := by decide +kernel
theorem dX5_copyFrom_73 : decode bX5_copyFrom 73 = .ok (.iconst 0, 1) := by decide +kernel
theorem dX5_copyFrom_74 : decode bX5_copyFrom 74 = .ok (.bipush 7, 2) := by decide +kernel
theorem dX5_copyFrom_76 : decode bX5_copyFrom 76 = .ok (.invokestatic 52, 3) := by decide +kernel
theorem dX5_copyFrom_79 : decode bX5_copyFrom 79 = .ok (.aload_n 1, 1) := by decide +kernel
theorem dX5_copyFrom_80 : decode bX5_copyFrom 80 = .ok (.getfield 15, 3) := by decide +kernel
theorem dX5_copyFrom_83 : decode bX5_copyFrom 83 = .ok (.iconst 0, 1) := by decide +kernel
theorem dX5_copyFrom_84 : decode bX5_copyFrom 84 = .ok (.aload_n 0, 1) := by decide +kernel
theorem dX5_copyFrom_85 : decode bX5_copyFrom 85 = .ok (.getfield 15, 3) := by decide +kernel
theorem dX5_copyFrom_88 : decode bX5_copyFrom 88 = .ok (.iconst 0, 1) := by decide +kernel
theorem dX5_copyFrom_89 : decode bX5_copyFrom 89 = .ok (.bipush 6, 2) := by decide +kernel
theorem dX5_copyFrom_91 : decode bX5_copyFrom 91 = .ok (.invokestatic 52, 3) := by decide +kernel
theorem dX5_copyFrom_94 : decode bX5_copyFrom 94 = .ok (.aload_n 1, 1) := by decide +kernel
theorem dX5_copyFrom_95 : decode bX5_copyFrom 95 = .ok (.getfield 18, 3) := by decide +kernel
theorem dX5_copyFrom_98 : decode bX5_copyFrom 98 = .ok (.iconst 0, 1) := by decide +kernel
theorem dX5_copyFrom_99 : decode bX5_copyFrom 99 = .ok (.aload_n 0, 1) := by decide +kernel
theorem dX5_copyFrom_100 : decode bX5_copyFrom 100 = .ok (.getfield 18, 3) := by decide +kernel
theorem dX5_copyFrom_103 : decode bX5_copyFrom 103 = .ok (.iconst 0, 1) := by decide +kernel
theorem dX5_copyFrom_104 : decode bX5_copyFrom 104 = .ok (.bipush 6, 2) := by decide +kernel
theorem dX5_copyFrom_106 : decode bX5_copyFrom 106 = .ok (.invokestatic 52, 3) := by decide +kernel
theorem dX5_copyFrom_109 : decode bX5_copyFrom 109 = .ok (.aload_n 1, 1) := by decide +kernel
theorem dX5_copyFrom_110 : decode bX5_copyFrom 110 = .ok (.getfield 21, 3) := by decide +kernel
theorem dX5_copyFrom_113 : decode bX5_copyFrom 113 = .ok (.iconst 0, 1) := by decide +kernel
theorem dX5_copyFrom_114 : decode bX5_copyFrom 114 = .ok (.aload_n 0, 1) := by decide +kernel
theorem dX5_copyFrom_115 : decode bX5_copyFrom 115 = .ok (.getfield 21, 3) := by decide +kernel
theorem dX5_copyFrom_118 : decode bX5_copyFrom 118 = .ok (.iconst 0, 1) := by decide +kernel
theorem dX5_copyFrom_119 : decode bX5_copyFrom 119 = .ok (.bipush 6, 2) := by decide +kernel
theorem dX5_copyFrom_121 : decode bX5_copyFrom 121 = .ok (.invokestatic 52, 3) := by decide +kernel
theorem dX5_copyFrom_124 : decode bX5_copyFrom 124 = .ok (.aload_n 1, 1) := by decide +kernel
theorem dX5_copyFrom_125 : decode bX5_copyFrom 125 = .ok (.getfield 24, 3) := by decide +kernel
theorem dX5_copyFrom_128 : decode bX5_copyFrom 128 = .ok (.iconst 0, 1) := by decide +kernel
theorem dX5_copyFrom_129 : decode bX5_copyFrom 129 = .ok (.aload_n 0, 1) := by decide +kernel
theorem dX5_copyFrom_130 : decode bX5_copyFrom 130 = .ok (.getfield 24, 3) := by decide +kernel
theorem dX5_copyFrom_133 : decode bX5_copyFrom 133 = .ok (.iconst 0, 1) := by decide +kernel
theorem dX5_copyFrom_134 : decode bX5_copyFrom 134 = .ok (.bipush 6, 2) := by decide +kernel
theorem dX5_copyFrom_136 : decode bX5_copyFrom 136 = .ok (.invokestatic 52, 3) := by decide +kernel
theorem dX5_copyFrom_139 : decode bX5_copyFrom 139 = .ok (.return_, 1) := by decide +kernel
theorem dX5_isTold_0 : decode bX5_isTold 0 = .ok (.aload_n 0, 1) := by decide +kernel
theorem dX5_isTold_1 : decode bX5_isTold 1 = .ok (.getfield 27, 3) := by decide +kernel
theorem dX5_isTold_4 : decode bX5_isTold 4 = .ok (.ifCond .le 7, 3) := by decide +kernel
theorem dX5_isTold_7 : decode bX5_isTold 7 = .ok (.iconst 1, 1) := by decide +kernel
theorem dX5_isTold_8 : decode bX5_isTold 8 = .ok (.goto 4, 3) := by decide +kernel
theorem dX5_isTold_11 : decode bX5_isTold 11 = .ok (.iconst 0, 1) := by decide +kernel
theorem dX5_isTold_12 : decode bX5_isTold 12 = .ok (.ireturn, 1) := by decide +kernel
theorem dX5_hasZone_0 : decode bX5_hasZone 0 = .ok (.iload_n 1, 1) := by decide +kernel
theorem dX5_hasZone_1 : decode bX5_hasZone 1 = .ok (.ifCond .lt 15, 3) := by decide +kernel
theorem dX5_hasZone_4 : decode bX5_hasZone 4 = .ok (.iload_n 1, 1) := by decide +kernel
theorem dX5_hasZone_5 : decode bX5_hasZone 5 = .ok (.aload_n 0, 1) := by decide +kernel
theorem dX5_hasZone_6 : decode bX5_hasZone 6 = .ok (.getfield 46, 3) := by decide +kernel
theorem dX5_hasZone_9 : decode bX5_hasZone 9 = .ok (.if_icmp .ge 7, 3) := by decide +kernel
theorem dX5_hasZone_12 : decode bX5_hasZone 12 = .ok (.iconst 1, 1) := by decide +kernel
theorem dX5_hasZone_13 : decode bX5_hasZone 13 = .ok (.goto 4, 3) := by decide +kernel
theorem dX5_hasZone_16 : decode bX5_hasZone 16 = .ok (.iconst 0, 1) := by decide +kernel
theorem dX5_hasZone_17 : decode bX5_hasZone 17 = .ok (.ireturn, 1) := by decide +kernel
theorem dX5_hasPiece_0 : decode bX5_hasPiece 0 = .ok (.iload_n 1, 1) := by decide +kernel
theorem dX5_hasPiece_1 : decode bX5_hasPiece 1 = .ok (.ifCond .lt 15, 3) := by decide +kernel
theorem dX5_hasPiece_4 : decode bX5_hasPiece 4 = .ok (.iload_n 1, 1) := by decide +kernel
theorem dX5_hasPiece_5 : decode bX5_hasPiece 5 = .ok (.aload_n 0, 1) := by decide +kernel
theorem dX5_hasPiece_6 : decode bX5_hasPiece 6 = .ok (.getfield 49, 3) := by decide +kernel
theorem dX5_hasPiece_9 : decode bX5_hasPiece 9 = .ok (.if_icmp .ge 7, 3) := by decide +kernel
theorem dX5_hasPiece_12 : decode bX5_hasPiece 12 = .ok (.iconst 1, 1) := by decide +kernel
theorem dX5_hasPiece_13 : decode bX5_hasPiece 13 = .ok (.goto 4, 3) := by decide +kernel
theorem dX5_hasPiece_16 : decode bX5_hasPiece 16 = .ok (.iconst 0, 1) := by decide +kernel
theorem dX5_hasPiece_17 : decode bX5_hasPiece 17 = .ok (.ireturn, 1) := by decide +kernel
theorem dX5_hasStep_0 : decode bX5_hasStep 0 = .ok (.aload_n 0, 1) := by decide +kernel
theorem dX5_hasStep_1 : decode bX5_hasStep 1 = .ok (.invokevirtual 58, 3) := by decide +kernel
theorem dX5_hasStep_4 : decode bX5_hasStep 4 = .ok (.ifCond .eq 19, 3) := by decide +kernel
theorem dX5_hasStep_7 : decode bX5_hasStep 7 = .ok (.iload_n 1, 1) := by decide +kernel
theorem dX5_hasStep_8 : decode bX5_hasStep 8 = .ok (.ifCond .lt 15, 3) := by decide +kernel
theorem dX5_hasStep_11 : decode bX5_hasStep 11 = .ok (.iload_n 1, 1) := by decide +kernel
theorem dX5_hasStep_12 : decode bX5_hasStep 12 = .ok (.aload_n 0, 1) := by decide +kernel
theorem dX5_hasStep_13 : decode bX5_hasStep 13 = .ok (.getfield 31, 3) := by decide +kernel
theorem dX5_hasStep_16 : decode bX5_hasStep 16 = .ok (.if_icmp .gt 7, 3) := by decide +kernel
theorem dX5_hasStep_19 : decode bX5_hasStep 19 = .ok (.iconst 1, 1) := by decide +kernel
theorem dX5_hasStep_20 : decode bX5_hasStep 20 = .ok (.goto 4, 3) := by decide +kernel
theorem dX5_hasStep_23 : decode bX5_hasStep 23 = .ok (.iconst 0, 1) := by decide +kernel
theorem dX5_hasStep_24 : decode bX5_hasStep 24 = .ok (.ireturn, 1) := by decide +kernel
theorem dX5_hasStepAhead_0 : decode bX5_hasStepAhead 0 = .ok (.aload_n 0, 1) := by decide +kernel
theorem dX5_hasStepAhead_1 : decode bX5_hasStepAhead 1 = .ok (.iload_n 1, 1) := by decide +kernel
theorem dX5_hasStepAhead_2 : decode bX5_hasStepAhead 2 = .ok (.invokevirtual 62, 3) := by decide +kernel
theorem dX5_hasStepAhead_5 : decode bX5_hasStepAhead 5 = .ok (.ifCond .eq 15, 3) := by decide +kernel
theorem dX5_hasStepAhead_8 : decode bX5_hasStepAhead 8 = .ok (.iload_n 1, 1) := by decide +kernel
theorem dX5_hasStepAhead_9 : decode bX5_hasStepAhead 9 = .ok (.aload_n 0, 1) := by decide +kernel
theorem dX5_hasStepAhead_10 : decode bX5_hasStepAhead 10 = .ok (.getfield 31, 3) := by decide +kernel
theorem dX5_hasStepAhead_13 : decode bX5_hasStepAhead 13 = .ok (.if_icmp .ge 7, 3) := by decide +kernel
theorem dX5_hasStepAhead_16 : decode bX5_hasStepAhead 16 = .ok (.iconst 1, 1) := by decide +kernel
theorem dX5_hasStepAhead_17 : decode bX5_hasStepAhead 17 = .ok (.goto 4, 3) := by decide +kernel
theorem dX5_hasStepAhead_20 : decode bX5_hasStepAhead 20 = .ok (.iconst 0, 1) := by decide +kernel
theorem dX5_hasStepAhead_21 : decode bX5_hasStepAhead 21 = .ok (.ireturn, 1) := by decide +kernel
theorem dX5_placeAt_0 : decode bX5_placeAt 0 = .ok (.iload_n 1, 1) := by decide +kernel
theorem dX5_placeAt_1 : decode bX5_placeAt 1 = .ok (.ifCond .lt 29, 3) := by decide +kernel
theorem dX5_placeAt_4 : decode bX5_placeAt 4 = .ok (.iload_n 1, 1) := by decide +kernel
theorem dX5_placeAt_5 : decode bX5_placeAt 5 = .ok (.aload_n 0, 1) := by decide +kernel
theorem dX5_placeAt_6 : decode bX5_placeAt 6 = .ok (.getfield 49, 3) := by decide +kernel
theorem dX5_placeAt_9 : decode bX5_placeAt 9 = .ok (.if_icmp .ge 21, 3) := by decide +kernel
theorem dX5_placeAt_12 : decode bX5_placeAt 12 = .ok (.aload_n 0, 1) := by decide +kernel
theorem dX5_placeAt_13 : decode bX5_placeAt 13 = .ok (.getfield 40, 3) := by decide +kernel
theorem dX5_placeAt_16 : decode bX5_placeAt 16 = .ok (.iconst 1, 1) := by decide +kernel
theorem dX5_placeAt_17 : decode bX5_placeAt 17 = .ok (.if_icmp .lt 13, 3) := by decide +kernel
theorem dX5_placeAt_20 : decode bX5_placeAt 20 = .ok (.iload_n 2, 1) := by decide +kernel
theorem dX5_placeAt_21 : decode bX5_placeAt 21 = .ok (.aload_n 0, 1) := by decide +kernel
theorem dX5_placeAt_22 : decode bX5_placeAt 22 = .ok (.getfield 24, 3) := by decide +kernel
theorem dX5_placeAt_25 : decode bX5_placeAt 25 = .ok (.iload_n 1, 1) := by decide +kernel
theorem dX5_placeAt_26 : decode bX5_placeAt 26 = .ok (.iaload, 1) := by decide +kernel
theorem dX5_placeAt_27 : decode bX5_placeAt 27 = .ok (.if_icmp .ge 5, 3) := by decide +kernel
theorem dX5_placeAt_30 : decode bX5_placeAt 30 = .ok (.iconst (-1), 1) := by decide +kernel
theorem dX5_placeAt_31 : decode bX5_placeAt 31 = .ok (.ireturn, 1) := by decide +kernel
theorem dX5_placeAt_32 : decode bX5_placeAt 32 = .ok (.iload_n 2, 1) := by decide +kernel
theorem dX5_placeAt_33 : decode bX5_placeAt 33 = .ok (.aload_n 0, 1) := by decide +kernel
theorem dX5_placeAt_34 : decode bX5_placeAt 34 = .ok (.getfield 24, 3) := by decide +kernel
theorem dX5_placeAt_37 : decode bX5_placeAt 37 = .ok (.iload_n 1, 1) := by decide +kernel
theorem dX5_placeAt_38 : decode bX5_placeAt 38 = .ok (.iaload, 1) := by decide +kernel
theorem dX5_placeAt_39 : decode bX5_placeAt 39 = .ok (.isub, 1) := by decide +kernel
theorem dX5_placeAt_40 : decode bX5_placeAt 40 = .ok (.aload_n 0, 1) := by decide +kernel
theorem dX5_placeAt_41 : decode bX5_placeAt 41 = .ok (.getfield 40, 3) := by decide +kernel
theorem dX5_placeAt_44 : decode bX5_placeAt 44 = .ok (.idiv, 1) := by decide +kernel
theorem dX5_placeAt_45 : decode bX5_placeAt 45 = .ok (.istore_n 3, 1) := by decide +kernel
theorem dX5_placeAt_46 : decode bX5_placeAt 46 = .ok (.iload_n 3, 1) := by decide +kernel
theorem dX5_placeAt_47 : decode bX5_placeAt 47 = .ok (.aload_n 0, 1) := by decide +kernel
theorem dX5_placeAt_48 : decode bX5_placeAt 48 = .ok (.getfield 46, 3) := by decide +kernel
theorem dX5_placeAt_51 : decode bX5_placeAt 51 = .ok (.if_icmp .ge 7, 3) := by decide +kernel
theorem dX5_placeAt_54 : decode bX5_placeAt 54 = .ok (.iload_n 3, 1) := by decide +kernel
theorem dX5_placeAt_55 : decode bX5_placeAt 55 = .ok (.goto 5, 3) := by decide +kernel
theorem dX5_placeAt_58 : decode bX5_placeAt 58 = .ok (.bipush 10, 2) := by decide +kernel
theorem dX5_placeAt_60 : decode bX5_placeAt 60 = .ok (.ireturn, 1) := by decide +kernel
theorem dX5_leavingStep_0 : decode bX5_leavingStep 0 = .ok (.aload_n 0, 1) := by decide +kernel
theorem dX5_leavingStep_1 : decode bX5_leavingStep 1 = .ok (.iload_n 1, 1) := by decide +kernel
theorem dX5_leavingStep_2 : decode bX5_leavingStep 2 = .ok (.invokevirtual 66, 3) := by decide +kernel
theorem dX5_leavingStep_5 : decode bX5_leavingStep 5 = .ok (.ifCond .ne 5, 3) := by decide +kernel
theorem dX5_leavingStep_8 : decode bX5_leavingStep 8 = .ok (.iconst (-1), 1) := by decide +kernel
theorem dX5_leavingStep_9 : decode bX5_leavingStep 9 = .ok (.ireturn, 1) := by decide +kernel
theorem dX5_leavingStep_10 : decode bX5_leavingStep 10 = .ok (.aload_n 0, 1) := by decide +kernel
theorem dX5_leavingStep_11 : decode bX5_leavingStep 11 = .ok (.getfield 24, 3) := by decide +kernel
theorem dX5_leavingStep_14 : decode bX5_leavingStep 14 = .ok (.iload_n 1, 1) := by decide +kernel
theorem dX5_leavingStep_15 : decode bX5_leavingStep 15 = .ok (.iaload, 1) := by decide +kernel
theorem dX5_leavingStep_16 : decode bX5_leavingStep 16 = .ok (.aload_n 0, 1) := by decide +kernel
theorem dX5_leavingStep_17 : decode bX5_leavingStep 17 = .ok (.getfield 46, 3) := by decide +kernel
theorem dX5_leavingStep_20 : decode bX5_leavingStep 20 = .ok (.aload_n 0, 1) := by decide +kernel
theorem dX5_leavingStep_21 : decode bX5_leavingStep 21 = .ok (.getfield 40, 3) := by decide +kernel
theorem dX5_leavingStep_24 : decode bX5_leavingStep 24 = .ok (.imul, 1) := by decide +kernel
theorem dX5_leavingStep_25 : decode bX5_leavingStep 25 = .ok (.iadd, 1) := by decide +kernel
theorem dX5_leavingStep_26 : decode bX5_leavingStep 26 = .ok (.istore_n 2, 1) := by decide +kernel
theorem dX5_leavingStep_27 : decode bX5_leavingStep 27 = .ok (.iload_n 2, 1) := by decide +kernel
theorem dX5_leavingStep_28 : decode bX5_leavingStep 28 = .ok (.aload_n 0, 1) := by decide +kernel
theorem dX5_leavingStep_29 : decode bX5_leavingStep 29 = .ok (.getfield 31, 3) := by decide +kernel
theorem dX5_leavingStep_32 : decode bX5_leavingStep 32 = .ok (.if_icmp .gt 7, 3) := by decide +kernel
theorem dX5_leavingStep_35 : decode bX5_leavingStep 35 = .ok (.iload_n 2, 1) := by decide +kernel
theorem dX5_leavingStep_36 : decode bX5_leavingStep 36 = .ok (.goto 4, 3) := by decide +kernel
theorem dX5_leavingStep_39 : decode bX5_leavingStep 39 = .ok (.iconst (-1), 1) := by decide +kernel
theorem dX5_leavingStep_40 : decode bX5_leavingStep 40 = .ok (.ireturn, 1) := by decide +kernel
theorem dX5_piecesAt_0 : decode bX5_piecesAt 0 = .ok (.iconst 0, 1) := by decide +kernel
theorem dX5_piecesAt_1 : decode bX5_piecesAt 1 = .ok (.istore_n 3, 1) := by decide +kernel
theorem dX5_piecesAt_2 : decode bX5_piecesAt 2 = .ok (.iconst 0, 1) := by decide +kernel
theorem dX5_piecesAt_3 : decode bX5_piecesAt 3 = .ok (.istore 4, 2) := by decide +kernel
theorem dX5_piecesAt_5 : decode bX5_piecesAt 5 = .ok (.iload 4, 2) := by decide +kernel
theorem dX5_piecesAt_7 : decode bX5_piecesAt 7 = .ok (.aload_n 0, 1) := by decide +kernel
theorem dX5_piecesAt_8 : decode bX5_piecesAt 8 = .ok (.getfield 49, 3) := by decide +kernel
theorem dX5_piecesAt_11 : decode bX5_piecesAt 11 = .ok (.if_icmp .ge 27, 3) := by decide +kernel
theorem dX5_piecesAt_14 : decode bX5_piecesAt 14 = .ok (.aload_n 0, 1) := by decide +kernel
theorem dX5_piecesAt_15 : decode bX5_piecesAt 15 = .ok (.iload 4, 2) := by decide +kernel
theorem dX5_piecesAt_17 : decode bX5_piecesAt 17 = .ok (.iload_n 2, 1) := by decide +kernel
theorem dX5_piecesAt_18 : decode bX5_piecesAt 18 = .ok (.invokevirtual 69, 3) := by decide +kernel
theorem dX5_piecesAt_21 : decode bX5_piecesAt 21 = .ok (.iload_n 1, 1) := by decide +kernel
theorem dX5_piecesAt_22 : decode bX5_piecesAt 22 = .ok (.if_icmp .ne 10, 3) := by decide +kernel
theorem dX5_piecesAt_25 : decode bX5_piecesAt 25 = .ok (.iload_n 3, 1) := by decide +kernel
theorem dX5_piecesAt_26 : decode bX5_piecesAt 26 = .ok (.iconst 1, 1) := by decide +kernel
theorem dX5_piecesAt_27 : decode bX5_piecesAt 27 = .ok (.iload 4, 2) := by decide +kernel
theorem dX5_piecesAt_29 : decode bX5_piecesAt 29 = .ok (.ishl, 1) := by decide +kernel
theorem dX5_piecesAt_30 : decode bX5_piecesAt 30 = .ok (.ior, 1) := by decide +kernel
theorem dX5_piecesAt_31 : decode bX5_piecesAt 31 = .ok (.istore_n 3, 1) := by decide +kernel
theorem dX5_piecesAt_32 : decode bX5_piecesAt 32 = .ok (.iinc 4 1, 3) := by decide +kernel
theorem dX5_piecesAt_35 : decode bX5_piecesAt 35 = .ok (.goto (-30), 3) := by decide +kernel
theorem dX5_piecesAt_38 : decode bX5_piecesAt 38 = .ok (.iload_n 3, 1) := by decide +kernel
theorem dX5_piecesAt_39 : decode bX5_piecesAt 39 = .ok (.ireturn, 1) := by decide +kernel
theorem dX5_hasCome_0 : decode bX5_hasCome 0 = .ok (.aload_n 0, 1) := by decide +kernel
theorem dX5_hasCome_1 : decode bX5_hasCome 1 = .ok (.iload_n 1, 1) := by decide +kernel
theorem dX5_hasCome_2 : decode bX5_hasCome 2 = .ok (.invokevirtual 66, 3) := by decide +kernel
theorem dX5_hasCome_5 : decode bX5_hasCome 5 = .ok (.ifCond .eq 17, 3) := by decide +kernel
theorem dX5_hasCome_8 : decode bX5_hasCome 8 = .ok (.aload_n 0, 1) := by decide +kernel
theorem dX5_hasCome_9 : decode bX5_hasCome 9 = .ok (.getfield 24, 3) := by decide +kernel
theorem dX5_hasCome_12 : decode bX5_hasCome 12 = .ok (.iload_n 1, 1) := by decide +kernel
theorem dX5_hasCome_13 : decode bX5_hasCome 13 = .ok (.iaload, 1) := by decide +kernel
theorem dX5_hasCome_14 : decode bX5_hasCome 14 = .ok (.iload_n 2, 1) := by decide +kernel
theorem dX5_hasCome_15 : decode bX5_hasCome 15 = .ok (.if_icmp .gt 7, 3) := by decide +kernel
theorem dX5_hasCome_18 : decode bX5_hasCome 18 = .ok (.iconst 1, 1) := by decide +kernel
theorem dX5_hasCome_19 : decode bX5_hasCome 19 = .ok (.goto 4, 3) := by decide +kernel
theorem dX5_hasCome_22 : decode bX5_hasCome 22 = .ok (.iconst 0, 1) := by decide +kernel
theorem dX5_hasCome_23 : decode bX5_hasCome 23 = .ok (.ireturn, 1) := by decide +kernel
theorem dX5_comeBy_0 : decode bX5_comeBy 0 = .ok (.iconst 0, 1) := by decide +kernel
theorem dX5_comeBy_1 : decode bX5_comeBy 1 = .ok (.istore_n 2, 1) := by decide +kernel
theorem dX5_comeBy_2 : decode bX5_comeBy 2 = .ok (.iconst 0, 1) := by decide +kernel
theorem dX5_comeBy_3 : decode bX5_comeBy 3 = .ok (.istore_n 3, 1) := by decide +kernel
theorem dX5_comeBy_4 : decode bX5_comeBy 4 = .ok (.iload_n 3, 1) := by decide +kernel
theorem dX5_comeBy_5 : decode bX5_comeBy 5 = .ok (.aload_n 0, 1) := by decide +kernel
theorem dX5_comeBy_6 : decode bX5_comeBy 6 = .ok (.getfield 49, 3) := by decide +kernel
theorem dX5_comeBy_9 : decode bX5_comeBy 9 = .ok (.if_icmp .ge 24, 3) := by decide +kernel
theorem dX5_comeBy_12 : decode bX5_comeBy 12 = .ok (.aload_n 0, 1) := by decide +kernel
theorem dX5_comeBy_13 : decode bX5_comeBy 13 = .ok (.iload_n 3, 1) := by decide +kernel
theorem dX5_comeBy_14 : decode bX5_comeBy 14 = .ok (.iload_n 1, 1) := by decide +kernel
theorem dX5_comeBy_15 : decode bX5_comeBy 15 = .ok (.invokevirtual 73, 3) := by decide +kernel
theorem dX5_comeBy_18 : decode bX5_comeBy 18 = .ok (.ifCond .eq 9, 3) := by decide +kernel
theorem dX5_comeBy_21 : decode bX5_comeBy 21 = .ok (.iload_n 2, 1) := by decide +kernel
theorem dX5_comeBy_22 : decode bX5_comeBy 22 = .ok (.iconst 1, 1) := by decide +kernel
theorem dX5_comeBy_23 : decode bX5_comeBy 23 = .ok (.iload_n 3, 1) := by decide +kernel
theorem dX5_comeBy_24 : decode bX5_comeBy 24 = .ok (.ishl, 1) := by decide +kernel
theorem dX5_comeBy_25 : decode bX5_comeBy 25 = .ok (.ior, 1) := by decide +kernel
theorem dX5_comeBy_26 : decode bX5_comeBy 26 = .ok (.istore_n 2, 1) := by decide +kernel
theorem dX5_comeBy_27 : decode bX5_comeBy 27 = .ok (.iinc 3 1, 3) := by decide +kernel
theorem dX5_comeBy_30 : decode bX5_comeBy 30 = .ok (.goto (-26), 3) := by decide +kernel
theorem dX5_comeBy_33 : decode bX5_comeBy 33 = .ok (.iload_n 2, 1) := by decide +kernel
theorem dX5_comeBy_34 : decode bX5_comeBy 34 = .ok (.ireturn, 1) := by decide +kernel
theorem dX5_comingAt_0 : decode bX5_comingAt 0 = .ok (.aload_n 0, 1) := by decide +kernel
theorem dX5_comingAt_1 : decode bX5_comingAt 1 = .ok (.iload_n 1, 1) := by decide +kernel
theorem dX5_comingAt_2 : decode bX5_comingAt 2 = .ok (.invokevirtual 77, 3) := by decide +kernel
theorem dX5_comingAt_5 : decode bX5_comingAt 5 = .ok (.aload_n 0, 1) := by decide +kernel
theorem dX5_comingAt_6 : decode bX5_comingAt 6 = .ok (.iload_n 1, 1) := by decide +kernel
theorem dX5_comingAt_7 : decode bX5_comingAt 7 = .ok (.iconst 1, 1) := by decide +kernel
theorem dX5_comingAt_8 : decode bX5_comingAt 8 = .ok (.isub, 1) := by decide +kernel
theorem dX5_comingAt_9 : decode bX5_comingAt 9 = .ok (.invokevirtual 77, 3) := by decide +kernel
theorem dX5_comingAt_12 : decode bX5_comingAt 12 = .ok (.iconst (-1), 1) := by decide +kernel
theorem dX5_comingAt_13 : decode bX5_comingAt 13 = .ok (.ixor, 1) := by decide +kernel
theorem dX5_comingAt_14 : decode bX5_comingAt 14 = .ok (.iand, 1) := by decide +kernel
theorem dX5_comingAt_15 : decode bX5_comingAt 15 = .ok (.ireturn, 1) := by decide +kernel
theorem dX5_busySteps_0 : decode bX5_busySteps 0 = .ok (.iconst 0, 1) := by decide +kernel
theorem dX5_busySteps_1 : decode bX5_busySteps 1 = .ok (.istore_n 2, 1) := by decide +kernel
theorem dX5_busySteps_2 : decode bX5_busySteps 2 = .ok (.iconst 0, 1) := by decide +kernel
theorem dX5_busySteps_3 : decode bX5_busySteps 3 = .ok (.istore_n 3, 1) := by decide +kernel
theorem dX5_busySteps_4 : decode bX5_busySteps 4 = .ok (.iload_n 3, 1) := by decide +kernel
theorem dX5_busySteps_5 : decode bX5_busySteps 5 = .ok (.aload_n 0, 1) := by decide +kernel
theorem dX5_busySteps_6 : decode bX5_busySteps 6 = .ok (.getfield 31, 3) := by decide +kernel
theorem dX5_busySteps_9 : decode bX5_busySteps 9 = .ok (.if_icmp .gt 21, 3) := by decide +kernel
theorem dX5_busySteps_12 : decode bX5_busySteps 12 = .ok (.aload_n 0, 1) := by decide +kernel
theorem dX5_busySteps_13 : decode bX5_busySteps 13 = .ok (.iload_n 1, 1) := by decide +kernel
theorem dX5_busySteps_14 : decode bX5_busySteps 14 = .ok (.iload_n 3, 1) := by decide +kernel
theorem dX5_busySteps_15 : decode bX5_busySteps 15 = .ok (.invokevirtual 81, 3) := by decide +kernel
theorem dX5_busySteps_18 : decode bX5_busySteps 18 = .ok (.ifCond .eq 6, 3) := by decide +kernel
theorem dX5_busySteps_21 : decode bX5_busySteps 21 = .ok (.iinc 2 1, 3) := by decide +kernel
theorem dX5_busySteps_24 : decode bX5_busySteps 24 = .ok (.iinc 3 1, 3) := by decide +kernel
theorem dX5_busySteps_27 : decode bX5_busySteps 27 = .ok (.goto (-23), 3) := by decide +kernel
theorem dX5_busySteps_30 : decode bX5_busySteps 30 = .ok (.iload_n 2, 1) := by decide +kernel
theorem dX5_busySteps_31 : decode bX5_busySteps 31 = .ok (.ireturn, 1) := by decide +kernel
theorem dX5_changeOver_0 : decode bX5_changeOver 0 = .ok (.aload_n 0, 1) := by decide +kernel
theorem dX5_changeOver_1 : decode bX5_changeOver 1 = .ok (.iload_n 1, 1) := by decide +kernel
theorem dX5_changeOver_2 : decode bX5_changeOver 2 = .ok (.invokevirtual 84, 3) := by decide +kernel
theorem dX5_changeOver_5 : decode bX5_changeOver 5 = .ok (.ifCond .eq 37, 3) := by decide +kernel
theorem dX5_changeOver_8 : decode bX5_changeOver 8 = .ok (.aload_n 0, 1) := by decide +kernel
theorem dX5_changeOver_9 : decode bX5_changeOver 9 = .ok (.iload_n 2, 1) := by decide +kernel
theorem dX5_changeOver_10 : decode bX5_changeOver 10 = .ok (.invokevirtual 84, 3) := by decide +kernel
theorem dX5_changeOver_13 : decode bX5_changeOver 13 = .ok (.ifCond .eq 29, 3) := by decide +kernel
theorem dX5_changeOver_16 : decode bX5_changeOver 16 = .ok (.aload_n 0, 1) := by decide +kernel
theorem dX5_changeOver_17 : decode bX5_changeOver 17 = .ok (.getfield 9, 3) := by decide +kernel
theorem dX5_changeOver_20 : decode bX5_changeOver 20 = .ok (.iload_n 1, 1) := by decide +kernel
theorem dX5_changeOver_21 : decode bX5_changeOver 21 = .ok (.iaload, 1) := by decide +kernel
theorem dX5_changeOver_22 : decode bX5_changeOver 22 = .ok (.istore_n 3, 1) := by decide +kernel
theorem dX5_changeOver_23 : decode bX5_changeOver 23 = .ok (.aload_n 0, 1) := by decide +kernel
theorem dX5_changeOver_24 : decode bX5_changeOver 24 = .ok (.getfield 9, 3) := by decide +kernel
theorem dX5_changeOver_27 : decode bX5_changeOver 27 = .ok (.iload_n 1, 1) := by decide +kernel
theorem dX5_changeOver_28 : decode bX5_changeOver 28 = .ok (.aload_n 0, 1) := by decide +kernel
theorem dX5_changeOver_29 : decode bX5_changeOver 29 = .ok (.getfield 9, 3) := by decide +kernel
theorem dX5_changeOver_32 : decode bX5_changeOver 32 = .ok (.iload_n 2, 1) := by decide +kernel
theorem dX5_changeOver_33 : decode bX5_changeOver 33 = .ok (.iaload, 1) := by decide +kernel
theorem dX5_changeOver_34 : decode bX5_changeOver 34 = .ok (.iastore, 1) := by decide +kernel
theorem dX5_changeOver_35 : decode bX5_changeOver 35 = .ok (.aload_n 0, 1) := by decide +kernel
theorem dX5_changeOver_36 : decode bX5_changeOver 36 = .ok (.getfield 9, 3) := by decide +kernel
theorem dX5_changeOver_39 : decode bX5_changeOver 39 = .ok (.iload_n 2, 1) := by decide +kernel
theorem dX5_changeOver_40 : decode bX5_changeOver 40 = .ok (.iload_n 3, 1) := by decide +kernel
theorem dX5_changeOver_41 : decode bX5_changeOver 41 = .ok (.iastore, 1) := by decide +kernel
theorem dX5_changeOver_42 : decode bX5_changeOver 42 = .ok (.return_, 1) := by decide +kernel
theorem dX5_leaveOut_0 : decode bX5_leaveOut 0 = .ok (.aload_n 0, 1) := by decide +kernel
theorem dX5_leaveOut_1 : decode bX5_leaveOut 1 = .ok (.iload_n 1, 1) := by decide +kernel
theorem dX5_leaveOut_2 : decode bX5_leaveOut 2 = .ok (.invokevirtual 84, 3) := by decide +kernel
theorem dX5_leaveOut_5 : decode bX5_leaveOut 5 = .ok (.ifCond .eq 32, 3) := by decide +kernel
theorem dX5_leaveOut_8 : decode bX5_leaveOut 8 = .ok (.aload_n 0, 1) := by decide +kernel
theorem dX5_leaveOut_9 : decode bX5_leaveOut 9 = .ok (.getfield 9, 3) := by decide +kernel
theorem dX5_leaveOut_12 : decode bX5_leaveOut 12 = .ok (.iload_n 1, 1) := by decide +kernel
theorem dX5_leaveOut_13 : decode bX5_leaveOut 13 = .ok (.iconst 1, 1) := by decide +kernel
theorem dX5_leaveOut_14 : decode bX5_leaveOut 14 = .ok (.iadd, 1) := by decide +kernel
theorem dX5_leaveOut_15 : decode bX5_leaveOut 15 = .ok (.aload_n 0, 1) := by decide +kernel
theorem dX5_leaveOut_16 : decode bX5_leaveOut 16 = .ok (.getfield 9, 3) := by decide +kernel
theorem dX5_leaveOut_19 : decode bX5_leaveOut 19 = .ok (.iload_n 1, 1) := by decide +kernel
theorem dX5_leaveOut_20 : decode bX5_leaveOut 20 = .ok (.bipush 6, 2) := by decide +kernel
theorem dX5_leaveOut_22 : decode bX5_leaveOut 22 = .ok (.iload_n 1, 1) := by decide +kernel
theorem dX5_leaveOut_23 : decode bX5_leaveOut 23 = .ok (.isub, 1) := by decide +kernel
theorem dX5_leaveOut_24 : decode bX5_leaveOut 24 = .ok (.invokestatic 52, 3) := by decide +kernel
theorem dX5_leaveOut_27 : decode bX5_leaveOut 27 = .ok (.aload_n 0, 1) := by decide +kernel
theorem dX5_leaveOut_28 : decode bX5_leaveOut 28 = .ok (.dup, 1) := by decide +kernel
theorem dX5_leaveOut_29 : decode bX5_leaveOut 29 = .ok (.getfield 46, 3) := by decide +kernel
theorem dX5_leaveOut_32 : decode bX5_leaveOut 32 = .ok (.iconst 1, 1) := by decide +kernel
theorem dX5_leaveOut_33 : decode bX5_leaveOut 33 = .ok (.isub, 1) := by decide +kernel
theorem dX5_leaveOut_34 : decode bX5_leaveOut 34 = .ok (.putfield 46, 3) := by decide +kernel
theorem dX5_leaveOut_37 : decode bX5_leaveOut 37 = .ok (.return_, 1) := by decide +kernel
theorem dX6_init_0 : decode bX6_init 0 = .ok (.aload_n 0, 1) := by decide +kernel
theorem dX6_init_1 : decode bX6_init 1 = .ok (.invokespecial 3, 3) := by decide +kernel
theorem dX6_init_4 : decode bX6_init 4 = .ok (.aload_n 0, 1) := by decide +kernel
theorem dX6_init_5 : decode bX6_init 5 = .ok (.aload_n 1, 1) := by decide +kernel
theorem dX6_init_6 : decode bX6_init 6 = .ok (.putfield 9, 3) := by decide +kernel
theorem dX6_init_9 : decode bX6_init 9 = .ok (.aload_n 0, 1) := by decide +kernel
theorem dX6_init_10 : decode bX6_init 10 = .ok (.iconst 0, 1) := by decide +kernel
theorem dX6_init_11 : decode bX6_init 11 = .ok (.putfield 15, 3) := by decide +kernel
theorem dX6_init_14 : decode bX6_init 14 = .ok (.aload_n 0, 1) := by decide +kernel
theorem dX6_init_15 : decode bX6_init 15 = .ok (.iconst (-1), 1) := by decide +kernel
theorem dX6_init_16 : decode bX6_init 16 = .ok (.putfield 19, 3) := by decide +kernel
theorem dX6_init_19 : decode bX6_init 19 = .ok (.return_, 1) := by decide +kernel
theorem dX6_readInto_0 : decode bX6_readInto 0 = .ok (.aload_n 0, 1) := by decide +kernel
theorem dX6_readInto_1 : decode bX6_readInto 1 = .ok (.iconst 0, 1) := by decide +kernel
theorem dX6_readInto_2 : decode bX6_readInto 2 = .ok (.putfield 15, 3) := by decide +kernel
theorem dX6_readInto_5 : decode bX6_readInto 5 = .ok (.aload_n 0, 1) := by decide +kernel
theorem dX6_readInto_6 : decode bX6_readInto 6 = .ok (.iconst (-1), 1) := by decide +kernel
theorem dX6_readInto_7 : decode bX6_readInto 7 = .ok (.putfield 19, 3) := by decide +kernel
theorem dX6_readInto_10 : decode bX6_readInto 10 = .ok (.aload_n 0, 1) := by decide +kernel
theorem dX6_readInto_11 : decode bX6_readInto 11 = .ok (.iconst 0, 1) := by decide +kernel
theorem dX6_readInto_12 : decode bX6_readInto 12 = .ok (.putfield 22, 3) := by decide +kernel
theorem dX6_readInto_15 : decode bX6_readInto 15 = .ok (.aload_n 0, 1) := by decide +kernel
theorem dX6_readInto_16 : decode bX6_readInto 16 = .ok (.invokevirtual 25, 3) := by decide +kernel
theorem dX6_readInto_19 : decode bX6_readInto 19 = .ok (.iconst 0, 1) := by decide +kernel
theorem dX6_readInto_20 : decode bX6_readInto 20 = .ok (.istore_n 2, 1) := by decide +kernel
theorem dX6_readInto_21 : decode bX6_readInto 21 = .ok (.iload_n 2, 1) := by decide +kernel
theorem dX6_readInto_22 : decode bX6_readInto 22 = .ok (.sipush 600, 3) := by decide +kernel
theorem dX6_readInto_25 : decode bX6_readInto 25 = .ok (.if_icmp .ge 29, 3) := by decide +kernel
theorem dX6_readInto_28 : decode bX6_readInto 28 = .ok (.aload_n 0, 1) := by decide +kernel
theorem dX6_readInto_29 : decode bX6_readInto 29 = .ok (.getfield 15, 3) := by decide +kernel
theorem dX6_readInto_32 : decode bX6_readInto 32 = .ok (.ifCond .ne 22, 3) := by decide +kernel
theorem dX6_readInto_35 : decode bX6_readInto 35 = .ok (.aload_n 0, 1) := by decide +kernel
theorem dX6_readInto_36 : decode bX6_readInto 36 = .ok (.getfield 28, 3) := by decide +kernel
theorem dX6_readInto_39 : decode bX6_readInto 39 = .ok (.iconst 4, 1) := by decide +kernel
theorem dX6_readInto_40 : decode bX6_readInto 40 = .ok (.if_icmp .eq 14, 3) := by decide +kernel
theorem dX6_readInto_43 : decode bX6_readInto 43 = .ok (.aload_n 0, 1) := by decide +kernel
theorem dX6_readInto_44 : decode bX6_readInto 44 = .ok (.aload_n 1, 1) := by decide +kernel
theorem dX6_readInto_45 : decode bX6_readInto 45 = .ok (.invokevirtual 31, 3) := by decide +kernel
theorem dX6_readInto_48 : decode bX6_readInto 48 = .ok (.iinc 2 1, 3) := by decide +kernel
theorem dX6_readInto_51 : decode bX6_readInto 51 = .ok (.goto (-30), 3) := by decide +kernel
theorem dX6_readInto_54 : decode bX6_readInto 54 = .ok (.return_, 1) := by decide +kernel
theorem dX6_readLine_0 : decode bX6_readLine 0 = .ok (.aload_n 1, 1) := by decide +kernel
theorem dX6_readLine_1 : decode bX6_readLine 1 = .ok (.getfield 35, 3) := by decide +kernel
theorem dX6_readLine_4 : decode bX6_readLine 4 = .ok (.ifCond .ne 11, 3) := by decide +kernel
theorem dX6_readLine_7 : decode bX6_readLine 7 = .ok (.aload_n 0, 1) := by decide +kernel
theorem dX6_readLine_8 : decode bX6_readLine 8 = .ok (.aload_n 1, 1) := by decide +kernel
theorem dX6_readLine_9 : decode bX6_readLine 9 = .ok (.invokevirtual 40, 3) := by decide +kernel
theorem dX6_readLine_12 : decode bX6_readLine 12 = .ok (.goto 42, 3) := by decide +kernel
theorem dX6_readLine_15 : decode bX6_readLine 15 = .ok (.aload_n 0, 1) := by decide +kernel
theorem dX6_readLine_16 : decode bX6_readLine 16 = .ok (.ldc 43, 2) := by decide +kernel
theorem dX6_readLine_18 : decode bX6_readLine 18 = .ok (.invokevirtual 45, 3) := by decide +kernel
theorem dX6_readLine_21 : decode bX6_readLine 21 = .ok (.ifCond .eq 11, 3) := by decide +kernel
theorem dX6_readLine_24 : decode bX6_readLine 24 = .ok (.aload_n 0, 1) := by decide +kernel
theorem dX6_readLine_25 : decode bX6_readLine 25 = .ok (.aload_n 1, 1) := by decide +kernel
theorem dX6_readLine_26 : decode bX6_readLine 26 = .ok (.invokevirtual 49, 3) := by decide +kernel
theorem dX6_readLine_29 : decode bX6_readLine 29 = .ok (.goto 25, 3) := by decide +kernel
theorem dX6_readLine_32 : decode bX6_readLine 32 = .ok (.aload_n 0, 1) := by decide +kernel
theorem dX6_readLine_33 : decode bX6_readLine 33 = .ok (.ldc 52, 2) := by decide +kernel
theorem dX6_readLine_35 : decode bX6_readLine 35 = .ok (.invokevirtual 45, 3) := by decide +kernel
theorem dX6_readLine_38 : decode bX6_readLine 38 = .ok (.ifCond .eq 11, 3) := by decide +kernel
theorem dX6_readLine_41 : decode bX6_readLine 41 = .ok (.aload_n 0, 1) := by decide +kernel
theorem dX6_readLine_42 : decode bX6_readLine 42 = .ok (.aload_n 1, 1) := by decide +kernel
theorem dX6_readLine_43 : decode bX6_readLine 43 = .ok (.invokevirtual 54, 3) := by decide +kernel
theorem dX6_readLine_46 : decode bX6_readLine 46 = .ok (.goto 8, 3) := by decide +kernel
theorem dX6_readLine_49 : decode bX6_readLine 49 = .ok (.aload_n 0, 1) := by decide +kernel
theorem dX6_readLine_50 : decode bX6_readLine 50 = .ok (.iconst 1, 1) := by decide +kernel
theorem dX6_readLine_51 : decode bX6_readLine 51 = .ok (.invokevirtual 57, 3) := by decide +kernel
theorem dX6_readLine_54 : decode bX6_readLine 54 = .ok (.aload_n 0, 1) := by decide +kernel
theorem dX6_readLine_55 : decode bX6_readLine 55 = .ok (.invokevirtual 61, 3) := by decide +kernel
theorem dX6_readLine_58 : decode bX6_readLine 58 = .ok (.aload_n 0, 1) := by decide +kernel
theorem dX6_readLine_59 : decode bX6_readLine 59 = .ok (.getfield 15, 3) := by decide +kernel
theorem dX6_readLine_62 : decode bX6_readLine 62 = .ok (.ifCond .ne 13, 3) := by decide +kernel
theorem dX6_readLine_65 : decode bX6_readLine 65 = .ok (.aload_n 1, 1) := by decide +kernel
theorem dX6_readLine_66 : decode bX6_readLine 66 = .ok (.dup, 1) := by decide +kernel
theorem dX6_readLine_67 : decode bX6_readLine 67 = .ok (.getfield 35, 3) := by decide +kernel
theorem dX6_readLine_70 : decode bX6_readLine 70 = .ok (.iconst 1, 1) := by decide +kernel
theorem dX6_readLine_71 : decode bX6_readLine 71 = .ok (.iadd, 1) := by decide +kernel
theorem dX6_readLine_72 : decode bX6_readLine 72 = .ok (.putfield 35, 3) := by decide +kernel
theorem dX6_readLine_75 : decode bX6_readLine 75 = .ok (.return_, 1) := by decide +kernel
theorem dX6_readHead_0 : decode bX6_readHead 0 = .ok (.aload_n 0, 1) := by decide +kernel
theorem dX6_readHead_1 : decode bX6_readHead 1 = .ok (.ldc 64, 2) := by decide +kernel
theorem dX6_readHead_3 : decode bX6_readHead 3 = .ok (.invokevirtual 66, 3) := by decide +kernel
theorem dX6_readHead_6 : decode bX6_readHead 6 = .ok (.aload_n 1, 1) := by decide +kernel
theorem dX6_readHead_7 : decode bX6_readHead 7 = .ok (.aload_n 0, 1) := by decide +kernel
theorem dX6_readHead_8 : decode bX6_readHead 8 = .ok (.ldc 70, 2) := by decide +kernel
theorem dX6_readHead_10 : decode bX6_readHead 10 = .ok (.iconst 1, 1) := by decide +kernel
theorem dX6_readHead_11 : decode bX6_readHead 11 = .ok (.bipush 14, 2) := by decide +kernel
theorem dX6_readHead_13 : decode bX6_readHead 13 = .ok (.invokevirtual 72, 3) := by decide +kernel
theorem dX6_readHead_16 : decode bX6_readHead 16 = .ok (.putfield 76, 3) := by decide +kernel
theorem dX6_readHead_19 : decode bX6_readHead 19 = .ok (.aload_n 1, 1) := by decide +kernel
theorem dX6_readHead_20 : decode bX6_readHead 20 = .ok (.aload_n 0, 1) := by decide +kernel
theorem dX6_readHead_21 : decode bX6_readHead 21 = .ok (.ldc 78, 2) := by decide +kernel
theorem dX6_readHead_23 : decode bX6_readHead 23 = .ok (.iconst 0, 1) := by decide +kernel
theorem dX6_readHead_24 : decode bX6_readHead 24 = .ok (.iconst 3, 1) := by decide +kernel
theorem dX6_readHead_25 : decode bX6_readHead 25 = .ok (.invokevirtual 72, 3) := by decide +kernel
theorem dX6_readHead_28 : decode bX6_readHead 28 = .ok (.putfield 80, 3) := by decide +kernel
theorem dX6_readHead_31 : decode bX6_readHead 31 = .ok (.aload_n 1, 1) := by decide +kernel
theorem dX6_readHead_32 : decode bX6_readHead 32 = .ok (.aload_n 0, 1) := by decide +kernel
theorem dX6_readHead_33 : decode bX6_readHead 33 = .ok (.ldc 82, 2) := by decide +kernel
theorem dX6_readHead_35 : decode bX6_readHead 35 = .ok (.iconst 0, 1) := by decide +kernel
theorem dX6_readHead_36 : decode bX6_readHead 36 = .ok (.bipush 10, 2) := by decide +kernel
theorem dX6_readHead_38 : decode bX6_readHead 38 = .ok (.invokevirtual 72, 3) := by decide +kernel
theorem dX6_readHead_41 : decode bX6_readHead 41 = .ok (.putfield 84, 3) := by decide +kernel
theorem dX6_readHead_44 : decode bX6_readHead 44 = .ok (.aload_n 1, 1) := by decide +kernel
theorem dX6_readHead_45 : decode bX6_readHead 45 = .ok (.aload_n 0, 1) := by decide +kernel
theorem dX6_readHead_46 : decode bX6_readHead 46 = .ok (.ldc 86, 2) := by decide +kernel
theorem dX6_readHead_48 : decode bX6_readHead 48 = .ok (.iconst 1, 1) := by decide +kernel
theorem dX6_readHead_49 : decode bX6_readHead 49 = .ok (.iconst 4, 1) := by decide +kernel
theorem dX6_readHead_50 : decode bX6_readHead 50 = .ok (.invokevirtual 72, 3) := by decide +kernel
theorem dX6_readHead_53 : decode bX6_readHead 53 = .ok (.putfield 88, 3) := by decide +kernel
theorem dX6_readHead_56 : decode bX6_readHead 56 = .ok (.aload_n 1, 1) := by decide +kernel
theorem dX6_readHead_57 : decode bX6_readHead 57 = .ok (.aload_n 0, 1) := by decide +kernel
theorem dX6_readHead_58 : decode bX6_readHead 58 = .ok (.ldc 90, 2) := by decide +kernel
theorem dX6_readHead_60 : decode bX6_readHead 60 = .ok (.iconst 0, 1) := by decide +kernel
theorem dX6_readHead_61 : decode bX6_readHead 61 = .ok (.sipush 600, 3) := by decide +kernel
theorem dX6_readHead_64 : decode bX6_readHead 64 = .ok (.invokevirtual 72, 3) := by decide +kernel
theorem dX6_readHead_67 : decode bX6_readHead 67 = .ok (.putfield 92, 3) := by decide +kernel
theorem dX6_readHead_70 : decode bX6_readHead 70 = .ok (.return_, 1) := by decide +kernel
theorem dX6_readZone_0 : decode bX6_readZone 0 = .ok (.aload_n 1, 1) := by decide +kernel
theorem dX6_readZone_1 : decode bX6_readZone 1 = .ok (.getfield 94, 3) := by decide +kernel
theorem dX6_readZone_4 : decode bX6_readZone 4 = .ok (.bipush 7, 2) := by decide +kernel
theorem dX6_readZone_6 : decode bX6_readZone 6 = .ok (.if_icmp .lt 9, 3) := by decide +kernel
theorem dX6_readZone_9 : decode bX6_readZone 9 = .ok (.aload_n 0, 1) := by decide +kernel
theorem dX6_readZone_10 : decode bX6_readZone 10 = .ok (.iconst 3, 1) := by decide +kernel
theorem dX6_readZone_11 : decode bX6_readZone 11 = .ok (.invokevirtual 57, 3) := by decide +kernel
theorem dX6_readZone_14 : decode bX6_readZone 14 = .ok (.return_, 1) := by decide +kernel
theorem dX6_readZone_15 : decode bX6_readZone 15 = .ok (.aload_n 1, 1) := by decide +kernel
theorem dX6_readZone_16 : decode bX6_readZone 16 = .ok (.getfield 97, 3) := by decide +kernel
theorem dX6_readZone_19 : decode bX6_readZone 19 = .ok (.aload_n 1, 1) := by decide +kernel
theorem dX6_readZone_20 : decode bX6_readZone 20 = .ok (.getfield 94, 3) := by decide +kernel
theorem dX6_readZone_23 : decode bX6_readZone 23 = .ok (.aload_n 0, 1) := by decide +kernel
theorem dX6_readZone_24 : decode bX6_readZone 24 = .ok (.ldc 43, 2) := by decide +kernel
theorem dX6_readZone_26 : decode bX6_readZone 26 = .ok (.iconst 0, 1) := by decide +kernel
theorem dX6_readZone_27 : decode bX6_readZone 27 = .ok (.sipush 600, 3) := by decide +kernel
theorem dX6_readZone_30 : decode bX6_readZone 30 = .ok (.invokevirtual 72, 3) := by decide +kernel
theorem dX6_readZone_33 : decode bX6_readZone 33 = .ok (.iastore, 1) := by decide +kernel
theorem dX6_readZone_34 : decode bX6_readZone 34 = .ok (.aload_n 1, 1) := by decide +kernel
theorem dX6_readZone_35 : decode bX6_readZone 35 = .ok (.dup, 1) := by decide +kernel
theorem dX6_readZone_36 : decode bX6_readZone 36 = .ok (.getfield 94, 3) := by decide +kernel
theorem dX6_readZone_39 : decode bX6_readZone 39 = .ok (.iconst 1, 1) := by decide +kernel
theorem dX6_readZone_40 : decode bX6_readZone 40 = .ok (.iadd, 1) := by decide +kernel
theorem dX6_readZone_41 : decode bX6_readZone 41 = .ok (.putfield 94, 3) := by decide +kernel
theorem dX6_readZone_44 : decode bX6_readZone 44 = .ok (.return_, 1) := by decide +kernel
theorem dX6_readPiece_0 : decode bX6_readPiece 0 = .ok (.aload_n 1, 1) := by decide +kernel
theorem dX6_readPiece_1 : decode bX6_readPiece 1 = .ok (.getfield 101, 3) := by decide +kernel
theorem dX6_readPiece_4 : decode bX6_readPiece 4 = .ok (.bipush 6, 2) := by decide +kernel
theorem dX6_readPiece_6 : decode bX6_readPiece 6 = .ok (.if_icmp .lt 9, 3) := by decide +kernel
theorem dX6_readPiece_9 : decode bX6_readPiece 9 = .ok (.aload_n 0, 1) := by decide +kernel
theorem dX6_readPiece_10 : decode bX6_readPiece 10 = .ok (.iconst 3, 1) := by decide +kernel
theorem dX6_readPiece_11 : decode bX6_readPiece 11 = .ok (.invokevirtual 57, 3) := by decide +kernel
theorem dX6_readPiece_14 : decode bX6_readPiece 14 = .ok (.return_, 1) := by decide +kernel
theorem dX6_readPiece_15 : decode bX6_readPiece 15 = .ok (.aload_n 1, 1) := by decide +kernel
theorem dX6_readPiece_16 : decode bX6_readPiece 16 = .ok (.getfield 101, 3) := by decide +kernel
theorem dX6_readPiece_19 : decode bX6_readPiece 19 = .ok (.istore_n 2, 1) := by decide +kernel
theorem dX6_readPiece_20 : decode bX6_readPiece 20 = .ok (.aload_n 0, 1) := by decide +kernel
theorem dX6_readPiece_21 : decode bX6_readPiece 21 = .ok (.ldc 52, 2) := by decide +kernel
theorem dX6_readPiece_23 : decode bX6_readPiece 23 = .ok (.invokevirtual 66, 3) := by decide +kernel
theorem dX6_readPiece_26 : decode bX6_readPiece 26 = .ok (.aload_n 1, 1) := by decide +kernel
theorem dX6_readPiece_27 : decode bX6_readPiece 27 = .ok (.getfield 104, 3) := by decide +kernel
theorem dX6_readPiece_30 : decode bX6_readPiece 30 = .ok (.iload_n 2, 1) := by decide +kernel
theorem dX6_readPiece_31 : decode bX6_readPiece 31 = .ok (.aload_n 0, 1) := by decide +kernel
theorem dX6_readPiece_32 : decode bX6_readPiece 32 = .ok (.ldc 107, 2) := by decide +kernel
theorem dX6_readPiece_34 : decode bX6_readPiece 34 = .ok (.iconst 0, 1) := by decide +kernel
theorem dX6_readPiece_35 : decode bX6_readPiece 35 = .ok (.sipush 600, 3) := by decide +kernel
theorem dX6_readPiece_38 : decode bX6_readPiece 38 = .ok (.invokevirtual 72, 3) := by decide +kernel
theorem dX6_readPiece_41 : decode bX6_readPiece 41 = .ok (.iastore, 1) := by decide +kernel
theorem dX6_readPiece_42 : decode bX6_readPiece 42 = .ok (.aload_n 1, 1) := by decide +kernel
theorem dX6_readPiece_43 : decode bX6_readPiece 43 = .ok (.getfield 108, 3) := by decide +kernel
theorem dX6_readPiece_46 : decode bX6_readPiece 46 = .ok (.iload_n 2, 1) := by decide +kernel
theorem dX6_readPiece_47 : decode bX6_readPiece 47 = .ok (.aload_n 0, 1) := by decide +kernel
theorem dX6_readPiece_48 : decode bX6_readPiece 48 = .ok (.ldc 111, 2) := by decide +kernel
theorem dX6_readPiece_50 : decode bX6_readPiece 50 = .ok (.iconst 1, 1) := by decide +kernel
theorem dX6_readPiece_51 : decode bX6_readPiece 51 = .ok (.bipush 9, 2) := by decide +kernel
theorem dX6_readPiece_53 : decode bX6_readPiece 53 = .ok (.invokevirtual 72, 3) := by decide +kernel
theorem dX6_readPiece_56 : decode bX6_readPiece 56 = .ok (.iastore, 1) := by decide +kernel
theorem dX6_readPiece_57 : decode bX6_readPiece 57 = .ok (.aload_n 1, 1) := by decide +kernel
theorem dX6_readPiece_58 : decode bX6_readPiece 58 = .ok (.getfield 112, 3) := by decide +kernel
theorem dX6_readPiece_61 : decode bX6_readPiece 61 = .ok (.iload_n 2, 1) := by decide +kernel
theorem dX6_readPiece_62 : decode bX6_readPiece 62 = .ok (.aload_n 0, 1) := by decide +kernel
theorem dX6_readPiece_63 : decode bX6_readPiece 63 = .ok (.ldc 115, 2) := by decide +kernel
theorem dX6_readPiece_65 : decode bX6_readPiece 65 = .ok (.iconst 0, 1) := by decide +kernel
theorem dX6_readPiece_66 : decode bX6_readPiece 66 = .ok (.sipush 300, 3) := by decide +kernel
theorem dX6_readPiece_69 : decode bX6_readPiece 69 = .ok (.invokevirtual 72, 3) := by decide +kernel
theorem dX6_readPiece_72 : decode bX6_readPiece 72 = .ok (.iastore, 1) := by decide +kernel
theorem dX6_readPiece_73 : decode bX6_readPiece 73 = .ok (.aload_n 1, 1) := by decide +kernel
theorem dX6_readPiece_74 : decode bX6_readPiece 74 = .ok (.getfield 116, 3) := by decide +kernel
theorem dX6_readPiece_77 : decode bX6_readPiece 77 = .ok (.iload_n 2, 1) := by decide +kernel
theorem dX6_readPiece_78 : decode bX6_readPiece 78 = .ok (.aload_n 0, 1) := by decide +kernel
theorem dX6_readPiece_79 : decode bX6_readPiece 79 = .ok (.ldc 119, 2) := by decide +kernel
theorem dX6_readPiece_81 : decode bX6_readPiece 81 = .ok (.iconst 0, 1) := by decide +kernel
theorem dX6_readPiece_82 : decode bX6_readPiece 82 = .ok (.bipush 14, 2) := by decide +kernel
theorem dX6_readPiece_84 : decode bX6_readPiece 84 = .ok (.invokevirtual 72, 3) := by decide +kernel
theorem dX6_readPiece_87 : decode bX6_readPiece 87 = .ok (.iastore, 1) := by decide +kernel
theorem dX6_readPiece_88 : decode bX6_readPiece 88 = .ok (.aload_n 1, 1) := by decide +kernel
theorem dX6_readPiece_89 : decode bX6_readPiece 89 = .ok (.dup, 1) := by decide +kernel
theorem dX6_readPiece_90 : decode bX6_readPiece 90 = .ok (.getfield 101, 3) := by decide +kernel
theorem dX6_readPiece_93 : decode bX6_readPiece 93 = .ok (.iconst 1, 1) := by decide +kernel
theorem dX6_readPiece_94 : decode bX6_readPiece 94 = .ok (.iadd, 1) := by decide +kernel
theorem dX6_readPiece_95 : decode bX6_readPiece 95 = .ok (.putfield 101, 3) := by decide +kernel
theorem dX6_readPiece_98 : decode bX6_readPiece 98 = .ok (.return_, 1) := by decide +kernel
theorem dX6_readNamed_0 : decode bX6_readNamed 0 = .ok (.aload_n 0, 1) := by decide +kernel
theorem dX6_readNamed_1 : decode bX6_readNamed 1 = .ok (.aload_n 1, 1) := by decide +kernel
theorem dX6_readNamed_2 : decode bX6_readNamed 2 = .ok (.invokevirtual 66, 3) := by decide +kernel
theorem dX6_readNamed_5 : decode bX6_readNamed 5 = .ok (.aload_n 0, 1) := by decide +kernel
theorem dX6_readNamed_6 : decode bX6_readNamed 6 = .ok (.getfield 15, 3) := by decide +kernel
theorem dX6_readNamed_9 : decode bX6_readNamed 9 = .ok (.ifCond .eq 5, 3) := by decide +kernel
theorem dX6_readNamed_12 : decode bX6_readNamed 12 = .ok (.iload_n 2, 1) := by decide +kernel
theorem dX6_readNamed_13 : decode bX6_readNamed 13 = .ok (.ireturn, 1) := by decide +kernel
theorem dX6_readNamed_14 : decode bX6_readNamed 14 = .ok (.aload_n 0, 1) := by decide +kernel
theorem dX6_readNamed_15 : decode bX6_readNamed 15 = .ok (.getfield 28, 3) := by decide +kernel
theorem dX6_readNamed_18 : decode bX6_readNamed 18 = .ok (.iconst 2, 1) := by decide +kernel
theorem dX6_readNamed_19 : decode bX6_readNamed 19 = .ok (.if_icmp .eq 10, 3) := by decide +kernel
theorem dX6_readNamed_22 : decode bX6_readNamed 22 = .ok (.aload_n 0, 1) := by decide +kernel
theorem dX6_readNamed_23 : decode bX6_readNamed 23 = .ok (.iconst 1, 1) := by decide +kernel
theorem dX6_readNamed_24 : decode bX6_readNamed 24 = .ok (.invokevirtual 57, 3) := by decide +kernel
theorem dX6_readNamed_27 : decode bX6_readNamed 27 = .ok (.iload_n 2, 1) := by decide +kernel
theorem dX6_readNamed_28 : decode bX6_readNamed 28 = .ok (.ireturn, 1) := by decide +kernel
theorem dX6_readNamed_29 : decode bX6_readNamed 29 = .ok (.aload_n 0, 1) := by decide +kernel
theorem dX6_readNamed_30 : decode bX6_readNamed 30 = .ok (.invokevirtual 121, 3) := by decide +kernel
theorem dX6_readNamed_33 : decode bX6_readNamed 33 = .ok (.istore 4, 2) := by decide +kernel
theorem dX6_readNamed_35 : decode bX6_readNamed 35 = .ok (.iload 4, 2) := by decide +kernel
theorem dX6_readNamed_37 : decode bX6_readNamed 37 = .ok (.iload_n 2, 1) := by decide +kernel
theorem dX6_readNamed_38 : decode bX6_readNamed 38 = .ok (.if_icmp .lt 9, 3) := by decide +kernel
theorem dX6_readNamed_41 : decode bX6_readNamed 41 = .ok (.iload 4, 2) := by decide +kernel
theorem dX6_readNamed_43 : decode bX6_readNamed 43 = .ok (.iload_n 3, 1) := by decide +kernel
theorem dX6_readNamed_44 : decode bX6_readNamed 44 = .ok (.if_icmp .le 10, 3) := by decide +kernel
theorem dX6_readNamed_47 : decode bX6_readNamed 47 = .ok (.aload_n 0, 1) := by decide +kernel
theorem dX6_readNamed_48 : decode bX6_readNamed 48 = .ok (.iconst 2, 1) := by decide +kernel
theorem dX6_readNamed_49 : decode bX6_readNamed 49 = .ok (.invokevirtual 57, 3) := by decide +kernel
theorem dX6_readNamed_52 : decode bX6_readNamed 52 = .ok (.iload_n 2, 1) := by decide +kernel
theorem dX6_readNamed_53 : decode bX6_readNamed 53 = .ok (.ireturn, 1) := by decide +kernel
theorem dX6_readNamed_54 : decode bX6_readNamed 54 = .ok (.aload_n 0, 1) := by decide +kernel
theorem dX6_readNamed_55 : decode bX6_readNamed 55 = .ok (.invokevirtual 25, 3) := by decide +kernel
theorem dX6_readNamed_58 : decode bX6_readNamed 58 = .ok (.iload 4, 2) := by decide +kernel
theorem dX6_readNamed_60 : decode bX6_readNamed 60 = .ok (.ireturn, 1) := by decide +kernel
theorem dX6_expectWord_0 : decode bX6_expectWord 0 = .ok (.aload_n 0, 1) := by decide +kernel
theorem dX6_expectWord_1 : decode bX6_expectWord 1 = .ok (.getfield 15, 3) := by decide +kernel
theorem dX6_expectWord_4 : decode bX6_expectWord 4 = .ok (.ifCond .eq 4, 3) := by decide +kernel
theorem dX6_expectWord_7 : decode bX6_expectWord 7 = .ok (.return_, 1) := by decide +kernel
theorem dX6_expectWord_8 : decode bX6_expectWord 8 = .ok (.aload_n 0, 1) := by decide +kernel
theorem dX6_expectWord_9 : decode bX6_expectWord 9 = .ok (.aload_n 1, 1) := by decide +kernel
theorem dX6_expectWord_10 : decode bX6_expectWord 10 = .ok (.invokevirtual 45, 3) := by decide +kernel
theorem dX6_expectWord_13 : decode bX6_expectWord 13 = .ok (.ifCond .eq 10, 3) := by decide +kernel
theorem dX6_expectWord_16 : decode bX6_expectWord 16 = .ok (.aload_n 0, 1) := by decide +kernel
theorem dX6_expectWord_17 : decode bX6_expectWord 17 = .ok (.invokevirtual 25, 3) := by decide +kernel
theorem dX6_expectWord_20 : decode bX6_expectWord 20 = .ok (.goto 8, 3) := by decide +kernel
theorem dX6_expectWord_23 : decode bX6_expectWord 23 = .ok (.aload_n 0, 1) := by decide +kernel
theorem dX6_expectWord_24 : decode bX6_expectWord 24 = .ok (.iconst 1, 1) := by decide +kernel
theorem dX6_expectWord_25 : decode bX6_expectWord 25 = .ok (.invokevirtual 57, 3) := by decide +kernel
theorem dX6_expectWord_28 : decode bX6_expectWord 28 = .ok (.return_, 1) := by decide +kernel
theorem dX6_expectSign_0 : decode bX6_expectSign 0 = .ok (.aload_n 0, 1) := by decide +kernel
theorem dX6_expectSign_1 : decode bX6_expectSign 1 = .ok (.getfield 15, 3) := by decide +kernel
theorem dX6_expectSign_4 : decode bX6_expectSign 4 = .ok (.ifCond .eq 4, 3) := by decide +kernel
theorem dX6_expectSign_7 : decode bX6_expectSign 7 = .ok (.return_, 1) := by decide +kernel
theorem dX6_expectSign_8 : decode bX6_expectSign 8 = .ok (.aload_n 0, 1) := by decide +kernel
theorem dX6_expectSign_9 : decode bX6_expectSign 9 = .ok (.getfield 28, 3) := by decide +kernel
theorem dX6_expectSign_12 : decode bX6_expectSign 12 = .ok (.iconst 3, 1) := by decide +kernel
theorem dX6_expectSign_13 : decode bX6_expectSign 13 = .ok (.if_icmp .ne 10, 3) := by decide +kernel
theorem dX6_expectSign_16 : decode bX6_expectSign 16 = .ok (.aload_n 0, 1) := by decide +kernel
theorem dX6_expectSign_17 : decode bX6_expectSign 17 = .ok (.invokevirtual 25, 3) := by decide +kernel
theorem dX6_expectSign_20 : decode bX6_expectSign 20 = .ok (.goto 8, 3) := by decide +kernel
theorem dX6_expectSign_23 : decode bX6_expectSign 23 = .ok (.aload_n 0, 1) := by decide +kernel
theorem dX6_expectSign_24 : decode bX6_expectSign 24 = .ok (.iconst 1, 1) := by decide +kernel
theorem dX6_expectSign_25 : decode bX6_expectSign 25 = .ok (.invokevirtual 57, 3) := by decide +kernel
theorem dX6_expectSign_28 : decode bX6_expectSign 28 = .ok (.return_, 1) := by decide +kernel
theorem dX6_fail_0 : decode bX6_fail 0 = .ok (.aload_n 0, 1) := by decide +kernel
theorem dX6_fail_1 : decode bX6_fail 1 = .ok (.iload_n 1, 1) := by decide +kernel
theorem dX6_fail_2 : decode bX6_fail 2 = .ok (.putfield 15, 3) := by decide +kernel
theorem dX6_fail_5 : decode bX6_fail 5 = .ok (.aload_n 0, 1) := by decide +kernel
theorem dX6_fail_6 : decode bX6_fail 6 = .ok (.aload_n 0, 1) := by decide +kernel
theorem dX6_fail_7 : decode bX6_fail 7 = .ok (.getfield 125, 3) := by decide +kernel
theorem dX6_fail_10 : decode bX6_fail 10 = .ok (.putfield 19, 3) := by decide +kernel
theorem dX6_fail_13 : decode bX6_fail 13 = .ok (.return_, 1) := by decide +kernel
theorem dX6_isWord_0 : decode bX6_isWord 0 = .ok (.aload_n 0, 1) := by decide +kernel
theorem dX6_isWord_1 : decode bX6_isWord 1 = .ok (.getfield 28, 3) := by decide +kernel
theorem dX6_isWord_4 : decode bX6_isWord 4 = .ok (.iconst 1, 1) := by decide +kernel
theorem dX6_isWord_5 : decode bX6_isWord 5 = .ok (.if_icmp .ne 19, 3) := by decide +kernel
theorem dX6_isWord_8 : decode bX6_isWord 8 = .ok (.aload_n 0, 1) := by decide +kernel
theorem dX6_isWord_9 : decode bX6_isWord 9 = .ok (.getfield 22, 3) := by decide +kernel
theorem dX6_isWord_12 : decode bX6_isWord 12 = .ok (.aload_n 0, 1) := by decide +kernel
theorem dX6_isWord_13 : decode bX6_isWord 13 = .ok (.getfield 125, 3) := by decide +kernel
theorem dX6_isWord_16 : decode bX6_isWord 16 = .ok (.isub, 1) := by decide +kernel
theorem dX6_isWord_17 : decode bX6_isWord 17 = .ok (.aload_n 1, 1) := by decide +kernel
theorem dX6_isWord_18 : decode bX6_isWord 18 = .ok (.invokevirtual 128, 3) := by decide +kernel
theorem dX6_isWord_21 : decode bX6_isWord 21 = .ok (.if_icmp .eq 5, 3) := by decide +kernel
theorem dX6_isWord_24 : decode bX6_isWord 24 = .ok (.iconst 0, 1) := by decide +kernel
theorem dX6_isWord_25 : decode bX6_isWord 25 = .ok (.ireturn, 1) := by decide +kernel
theorem dX6_isWord_26 : decode bX6_isWord 26 = .ok (.iconst 0, 1) := by decide +kernel
theorem dX6_isWord_27 : decode bX6_isWord 27 = .ok (.istore_n 2, 1) := by decide +kernel
theorem dX6_isWord_28 : decode bX6_isWord 28 = .ok (.iload_n 2, 1) := by decide +kernel
theorem dX6_isWord_29 : decode bX6_isWord 29 = .ok (.aload_n 1, 1) := by decide +kernel
theorem dX6_isWord_30 : decode bX6_isWord 30 = .ok (.invokevirtual 128, 3) := by decide +kernel
theorem dX6_isWord_33 : decode bX6_isWord 33 = .ok (.if_icmp .ge 32, 3) := by decide +kernel
theorem dX6_isWord_36 : decode bX6_isWord 36 = .ok (.aload_n 0, 1) := by decide +kernel
theorem dX6_isWord_37 : decode bX6_isWord 37 = .ok (.getfield 9, 3) := by decide +kernel
theorem dX6_isWord_40 : decode bX6_isWord 40 = .ok (.aload_n 0, 1) := by decide +kernel
theorem dX6_isWord_41 : decode bX6_isWord 41 = .ok (.getfield 125, 3) := by decide +kernel
theorem dX6_isWord_44 : decode bX6_isWord 44 = .ok (.iload_n 2, 1) := by decide +kernel
theorem dX6_isWord_45 : decode bX6_isWord 45 = .ok (.iadd, 1) := by decide +kernel
theorem dX6_isWord_46 : decode bX6_isWord 46 = .ok (.invokevirtual 133, 3) := by decide +kernel
theorem dX6_isWord_49 : decode bX6_isWord 49 = .ok (.aload_n 1, 1) := by decide +kernel
theorem dX6_isWord_50 : decode bX6_isWord 50 = .ok (.iload_n 2, 1) := by decide +kernel
theorem dX6_isWord_51 : decode bX6_isWord 51 = .ok (.invokevirtual 139, 3) := by decide +kernel
theorem dX6_isWord_54 : decode bX6_isWord 54 = .ok (.if_icmp .eq 5, 3) := by decide +kernel
theorem dX6_isWord_57 : decode bX6_isWord 57 = .ok (.iconst 0, 1) := by decide +kernel
theorem dX6_isWord_58 : decode bX6_isWord 58 = .ok (.ireturn, 1) := by decide +kernel
theorem dX6_isWord_59 : decode bX6_isWord 59 = .ok (.iinc 2 1, 3) := by decide +kernel
theorem dX6_isWord_62 : decode bX6_isWord 62 = .ok (.goto (-34), 3) := by decide +kernel
theorem dX6_isWord_65 : decode bX6_isWord 65 = .ok (.iconst 1, 1) := by decide +kernel
theorem dX6_isWord_66 : decode bX6_isWord 66 = .ok (.ireturn, 1) := by decide +kernel
theorem dX6_tokenNumber_0 : decode bX6_tokenNumber 0 = .ok (.iconst 0, 1) := by decide +kernel
theorem dX6_tokenNumber_1 : decode bX6_tokenNumber 1 = .ok (.istore_n 1, 1) := by decide +kernel
theorem dX6_tokenNumber_2 : decode bX6_tokenNumber 2 = .ok (.aload_n 0, 1) := by decide +kernel
theorem dX6_tokenNumber_3 : decode bX6_tokenNumber 3 = .ok (.getfield 125, 3) := by decide +kernel
theorem dX6_tokenNumber_6 : decode bX6_tokenNumber 6 = .ok (.istore_n 2, 1) := by decide +kernel
theorem dX6_tokenNumber_7 : decode bX6_tokenNumber 7 = .ok (.iload_n 2, 1) := by decide +kernel
theorem dX6_tokenNumber_8 : decode bX6_tokenNumber 8 = .ok (.aload_n 0, 1) := by decide +kernel
theorem dX6_tokenNumber_9 : decode bX6_tokenNumber 9 = .ok (.getfield 22, 3) := by decide +kernel
theorem dX6_tokenNumber_12 : decode bX6_tokenNumber 12 = .ok (.if_icmp .ge 32, 3) := by decide +kernel
theorem dX6_tokenNumber_15 : decode bX6_tokenNumber 15 = .ok (.iload_n 1, 1) := by decide +kernel
theorem dX6_tokenNumber_16 : decode bX6_tokenNumber 16 = .ok (.bipush 10, 2) := by decide +kernel
theorem dX6_tokenNumber_18 : decode bX6_tokenNumber 18 = .ok (.imul, 1) := by decide +kernel
theorem dX6_tokenNumber_19 : decode bX6_tokenNumber 19 = .ok (.aload_n 0, 1) := by decide +kernel
theorem dX6_tokenNumber_20 : decode bX6_tokenNumber 20 = .ok (.getfield 9, 3) := by decide +kernel
theorem dX6_tokenNumber_23 : decode bX6_tokenNumber 23 = .ok (.iload_n 2, 1) := by decide +kernel
theorem dX6_tokenNumber_24 : decode bX6_tokenNumber 24 = .ok (.invokevirtual 133, 3) := by decide +kernel
theorem dX6_tokenNumber_27 : decode bX6_tokenNumber 27 = .ok (.iadd, 1) := by decide +kernel
theorem dX6_tokenNumber_28 : decode bX6_tokenNumber 28 = .ok (.bipush 48, 2) := by decide +kernel
theorem dX6_tokenNumber_30 : decode bX6_tokenNumber 30 = .ok (.isub, 1) := by decide +kernel
theorem dX6_tokenNumber_31 : decode bX6_tokenNumber 31 = .ok (.sipush 601, 3) := by decide +kernel
theorem dX6_tokenNumber_34 : decode bX6_tokenNumber 34 = .ok (.invokestatic 143, 3) := by decide +kernel
theorem dX6_tokenNumber_37 : decode bX6_tokenNumber 37 = .ok (.istore_n 1, 1) := by decide +kernel
theorem dX6_tokenNumber_38 : decode bX6_tokenNumber 38 = .ok (.iinc 2 1, 3) := by decide +kernel
theorem dX6_tokenNumber_41 : decode bX6_tokenNumber 41 = .ok (.goto (-34), 3) := by decide +kernel
theorem dX6_tokenNumber_44 : decode bX6_tokenNumber 44 = .ok (.iload_n 1, 1) := by decide +kernel
theorem dX6_tokenNumber_45 : decode bX6_tokenNumber 45 = .ok (.ireturn, 1) := by decide +kernel
theorem dX6_nextToken_0 : decode bX6_nextToken 0 = .ok (.aload_n 0, 1) := by decide +kernel
theorem dX6_nextToken_1 : decode bX6_nextToken 1 = .ok (.aload_n 0, 1) := by decide +kernel
theorem dX6_nextToken_2 : decode bX6_nextToken 2 = .ok (.getfield 22, 3) := by decide +kernel
theorem dX6_nextToken_5 : decode bX6_nextToken 5 = .ok (.putfield 125, 3) := by decide +kernel
theorem dX6_nextToken_8 : decode bX6_nextToken 8 = .ok (.aload_n 0, 1) := by decide +kernel
theorem dX6_nextToken_9 : decode bX6_nextToken 9 = .ok (.getfield 125, 3) := by decide +kernel
theorem dX6_nextToken_12 : decode bX6_nextToken 12 = .ok (.aload_n 0, 1) := by decide +kernel
theorem dX6_nextToken_13 : decode bX6_nextToken 13 = .ok (.getfield 9, 3) := by decide +kernel
theorem dX6_nextToken_16 : decode bX6_nextToken 16 = .ok (.getfield 149, 3) := by decide +kernel
theorem dX6_nextToken_19 : decode bX6_nextToken 19 = .ok (.if_icmp .ge 33, 3) := by decide +kernel
theorem dX6_nextToken_22 : decode bX6_nextToken 22 = .ok (.aload_n 0, 1) := by decide +kernel
theorem dX6_nextToken_23 : decode bX6_nextToken 23 = .ok (.getfield 9, 3) := by decide +kernel
theorem dX6_nextToken_26 : decode bX6_nextToken 26 = .ok (.aload_n 0, 1) := by decide +kernel
theorem dX6_nextToken_27 : decode bX6_nextToken 27 = .ok (.getfield 125, 3) := by decide +kernel
theorem dX6_nextToken_30 : decode bX6_nextToken 30 = .ok (.invokevirtual 133, 3) := by decide +kernel
theorem dX6_nextToken_33 : decode bX6_nextToken 33 = .ok (.invokestatic 151, 3) := by decide +kernel
theorem dX6_nextToken_36 : decode bX6_nextToken 36 = .ok (.ifCond .eq 16, 3) := by decide +kernel
theorem dX6_nextToken_39 : decode bX6_nextToken 39 = .ok (.aload_n 0, 1) := by decide +kernel
theorem dX6_nextToken_40 : decode bX6_nextToken 40 = .ok (.dup, 1) := by decide +kernel
theorem dX6_nextToken_41 : decode bX6_nextToken 41 = .ok (.getfield 125, 3) := by decide +kernel
theorem dX6_nextToken_44 : decode bX6_nextToken 44 = .ok (.iconst 1, 1) := by decide +kernel
theorem dX6_nextToken_45 : decode bX6_nextToken 45 = .ok (.iadd, 1) := by decide +kernel
theorem dX6_nextToken_46 : decode bX6_nextToken 46 = .ok (.putfield 125, 3) := by decide +kernel
theorem dX6_nextToken_49 : decode bX6_nextToken 49 = .ok (.goto (-41), 3) := by decide +kernel
theorem dX6_nextToken_52 : decode bX6_nextToken 52 = .ok (.aload_n 0, 1) := by decide +kernel
theorem dX6_nextToken_53 : decode bX6_nextToken 53 = .ok (.aload_n 0, 1) := by decide +kernel
theorem dX6_nextToken_54 : decode bX6_nextToken 54 = .ok (.getfield 125, 3) := by decide +kernel
theorem dX6_nextToken_57 : decode bX6_nextToken 57 = .ok (.putfield 22, 3) := by decide +kernel
theorem dX6_nextToken_60 : decode bX6_nextToken 60 = .ok (.aload_n 0, 1) := by decide +kernel
theorem dX6_nextToken_61 : decode bX6_nextToken 61 = .ok (.getfield 125, 3) := by decide +kernel
theorem dX6_nextToken_64 : decode bX6_nextToken 64 = .ok (.aload_n 0, 1) := by decide +kernel
theorem dX6_nextToken_65 : decode bX6_nextToken 65 = .ok (.getfield 9, 3) := by decide +kernel
theorem dX6_nextToken_68 : decode bX6_nextToken 68 = .ok (.getfield 149, 3) := by decide +kernel
theorem dX6_nextToken_71 : decode bX6_nextToken 71 = .ok (.if_icmp .lt 9, 3) := by decide +kernel
theorem dX6_nextToken_74 : decode bX6_nextToken 74 = .ok (.aload_n 0, 1) := by decide +kernel
theorem dX6_nextToken_75 : decode bX6_nextToken 75 = .ok (.iconst 4, 1) := by decide +kernel
theorem dX6_nextToken_76 : decode bX6_nextToken 76 = .ok (.putfield 28, 3) := by decide +kernel
theorem dX6_nextToken_79 : decode bX6_nextToken 79 = .ok (.return_, 1) := by decide +kernel
theorem dX6_nextToken_80 : decode bX6_nextToken 80 = .ok (.aload_n 0, 1) := by decide +kernel
theorem dX6_nextToken_81 : decode bX6_nextToken 81 = .ok (.aload_n 0, 1) := by decide +kernel
theorem dX6_nextToken_82 : decode bX6_nextToken 82 = .ok (.getfield 9, 3) := by decide +kernel
theorem dX6_nextToken_85 : decode bX6_nextToken 85 = .ok (.aload_n 0, 1) := by decide +kernel
theorem dX6_nextToken_86 : decode bX6_nextToken 86 = .ok (.getfield 125, 3) := by decide +kernel
theorem dX6_nextToken_89 : decode bX6_nextToken 89 = .ok (.invokevirtual 133, 3) := by decide +kernel
theorem dX6_nextToken_92 : decode bX6_nextToken 92 = .ok (.invokestatic 155, 3) := by decide +kernel
theorem dX6_nextToken_95 : decode bX6_nextToken 95 = .ok (.putfield 28, 3) := by decide +kernel
theorem dX6_nextToken_98 : decode bX6_nextToken 98 = .ok (.aload_n 0, 1) := by decide +kernel
theorem dX6_nextToken_99 : decode bX6_nextToken 99 = .ok (.dup, 1) := by decide +kernel
theorem dX6_nextToken_100 : decode bX6_nextToken 100 = .ok (.getfield 22, 3) := by decide +kernel
theorem dX6_nextToken_103 : decode bX6_nextToken 103 = .ok (.iconst 1, 1) := by decide +kernel
theorem dX6_nextToken_104 : decode bX6_nextToken 104 = .ok (.iadd, 1) := by decide +kernel
theorem dX6_nextToken_105 : decode bX6_nextToken 105 = .ok (.putfield 22, 3) := by decide +kernel
theorem dX6_nextToken_108 : decode bX6_nextToken 108 = .ok (.aload_n 0, 1) := by decide +kernel
theorem dX6_nextToken_109 : decode bX6_nextToken 109 = .ok (.getfield 28, 3) := by decide +kernel
theorem dX6_nextToken_112 : decode bX6_nextToken 112 = .ok (.iconst 1, 1) := by decide +kernel
theorem dX6_nextToken_113 : decode bX6_nextToken 113 = .ok (.if_icmp .eq 12, 3) := by decide +kernel
theorem dX6_nextToken_116 : decode bX6_nextToken 116 = .ok (.aload_n 0, 1) := by decide +kernel
theorem dX6_nextToken_117 : decode bX6_nextToken 117 = .ok (.getfield 28, 3) := by decide +kernel
theorem dX6_nextToken_120 : decode bX6_nextToken 120 = .ok (.iconst 2, 1) := by decide +kernel
theorem dX6_nextToken_121 : decode bX6_nextToken 121 = .ok (.if_icmp .eq 4, 3) := by decide +kernel
theorem dX6_nextToken_124 : decode bX6_nextToken 124 = .ok (.return_, 1) := by decide +kernel
theorem dX6_nextToken_125 : decode bX6_nextToken 125 = .ok (.aload_n 0, 1) := by decide +kernel
theorem dX6_nextToken_126 : decode bX6_nextToken 126 = .ok (.getfield 22, 3) := by decide +kernel
theorem dX6_nextToken_129 : decode bX6_nextToken 129 = .ok (.aload_n 0, 1) := by decide +kernel
theorem dX6_nextToken_130 : decode bX6_nextToken 130 = .ok (.getfield 9, 3) := by decide +kernel
theorem dX6_nextToken_133 : decode bX6_nextToken 133 = .ok (.getfield 149, 3) := by decide +kernel
theorem dX6_nextToken_136 : decode bX6_nextToken 136 = .ok (.if_icmp .ge 37, 3) := by decide +kernel
theorem dX6_nextToken_139 : decode bX6_nextToken 139 = .ok (.aload_n 0, 1) := by decide +kernel
theorem dX6_nextToken_140 : decode bX6_nextToken 140 = .ok (.getfield 9, 3) := by decide +kernel
theorem dX6_nextToken_143 : decode bX6_nextToken 143 = .ok (.aload_n 0, 1) := by decide +kernel
theorem dX6_nextToken_144 : decode bX6_nextToken 144 = .ok (.getfield 22, 3) := by decide +kernel
theorem dX6_nextToken_147 : decode bX6_nextToken 147 = .ok (.invokevirtual 133, 3) := by decide +kernel
theorem dX6_nextToken_150 : decode bX6_nextToken 150 = .ok (.invokestatic 155, 3) := by decide +kernel
theorem dX6_nextToken_153 : decode bX6_nextToken 153 = .ok (.aload_n 0, 1) := by decide +kernel
theorem dX6_nextToken_154 : decode bX6_nextToken 154 = .ok (.getfield 28, 3) := by decide +kernel
theorem dX6_nextToken_157 : decode bX6_nextToken 157 = .ok (.if_icmp .ne 16, 3) := by decide +kernel
theorem dX6_nextToken_160 : decode bX6_nextToken 160 = .ok (.aload_n 0, 1) := by decide +kernel
theorem dX6_nextToken_161 : decode bX6_nextToken 161 = .ok (.dup, 1) := by decide +kernel
theorem dX6_nextToken_162 : decode bX6_nextToken 162 = .ok (.getfield 22, 3) := by decide +kernel
theorem dX6_nextToken_165 : decode bX6_nextToken 165 = .ok (.iconst 1, 1) := by decide +kernel
theorem dX6_nextToken_166 : decode bX6_nextToken 166 = .ok (.iadd, 1) := by decide +kernel
theorem dX6_nextToken_167 : decode bX6_nextToken 167 = .ok (.putfield 22, 3) := by decide +kernel
theorem dX6_nextToken_170 : decode bX6_nextToken 170 = .ok (.goto (-45), 3) := by decide +kernel
theorem dX6_nextToken_173 : decode bX6_nextToken 173 = .ok (.return_, 1) := by decide +kernel
theorem dX6_isBlank_0 : decode bX6_isBlank 0 = .ok (.iload_n 0, 1) := by decide +kernel
theorem dX6_isBlank_1 : decode bX6_isBlank 1 = .ok (.bipush 32, 2) := by decide +kernel
theorem dX6_isBlank_3 : decode bX6_isBlank 3 = .ok (.if_icmp .eq 9, 3) := by decide +kernel
theorem dX6_isBlank_6 : decode bX6_isBlank 6 = .ok (.iload_n 0, 1) := by decide +kernel
theorem dX6_isBlank_7 : decode bX6_isBlank 7 = .ok (.bipush 10, 2) := by decide +kernel
theorem dX6_isBlank_9 : decode bX6_isBlank 9 = .ok (.if_icmp .ne 7, 3) := by decide +kernel
theorem dX6_isBlank_12 : decode bX6_isBlank 12 = .ok (.iconst 1, 1) := by decide +kernel
theorem dX6_isBlank_13 : decode bX6_isBlank 13 = .ok (.goto 4, 3) := by decide +kernel
theorem dX6_isBlank_16 : decode bX6_isBlank 16 = .ok (.iconst 0, 1) := by decide +kernel
theorem dX6_isBlank_17 : decode bX6_isBlank 17 = .ok (.ireturn, 1) := by decide +kernel
theorem dX6_kindOf_0 : decode bX6_kindOf 0 = .ok (.iload_n 0, 1) := by decide +kernel
theorem dX6_kindOf_1 : decode bX6_kindOf 1 = .ok (.bipush 97, 2) := by decide +kernel
theorem dX6_kindOf_3 : decode bX6_kindOf 3 = .ok (.if_icmp .lt 11, 3) := by decide +kernel
theorem dX6_kindOf_6 : decode bX6_kindOf 6 = .ok (.iload_n 0, 1) := by decide +kernel
theorem dX6_kindOf_7 : decode bX6_kindOf 7 = .ok (.bipush 122, 2) := by decide +kernel
theorem dX6_kindOf_9 : decode bX6_kindOf 9 = .ok (.if_icmp .gt 5, 3) := by decide +kernel
theorem dX6_kindOf_12 : decode bX6_kindOf 12 = .ok (.iconst 1, 1) := by decide +kernel
theorem dX6_kindOf_13 : decode bX6_kindOf 13 = .ok (.ireturn, 1) := by decide +kernel
theorem dX6_kindOf_14 : decode bX6_kindOf 14 = .ok (.iload_n 0, 1) := by decide +kernel
theorem dX6_kindOf_15 : decode bX6_kindOf 15 = .ok (.bipush 48, 2) := by decide +kernel
theorem dX6_kindOf_17 : decode bX6_kindOf 17 = .ok (.if_icmp .lt 11, 3) := by decide +kernel
theorem dX6_kindOf_20 : decode bX6_kindOf 20 = .ok (.iload_n 0, 1) := by decide +kernel
theorem dX6_kindOf_21 : decode bX6_kindOf 21 = .ok (.bipush 57, 2) := by decide +kernel
theorem dX6_kindOf_23 : decode bX6_kindOf 23 = .ok (.if_icmp .gt 5, 3) := by decide +kernel
theorem dX6_kindOf_26 : decode bX6_kindOf 26 = .ok (.iconst 2, 1) := by decide +kernel
theorem dX6_kindOf_27 : decode bX6_kindOf 27 = .ok (.ireturn, 1) := by decide +kernel
theorem dX6_kindOf_28 : decode bX6_kindOf 28 = .ok (.iload_n 0, 1) := by decide +kernel
theorem dX6_kindOf_29 : decode bX6_kindOf 29 = .ok (.bipush 59, 2) := by decide +kernel
theorem dX6_kindOf_31 : decode bX6_kindOf 31 = .ok (.if_icmp .ne 7, 3) := by decide +kernel
theorem dX6_kindOf_34 : decode bX6_kindOf 34 = .ok (.iconst 3, 1) := by decide +kernel
theorem dX6_kindOf_35 : decode bX6_kindOf 35 = .ok (.goto 4, 3) := by decide +kernel
theorem dX6_kindOf_38 : decode bX6_kindOf 38 = .ok (.iconst 0, 1) := by decide +kernel
theorem dX6_kindOf_39 : decode bX6_kindOf 39 = .ok (.ireturn, 1) := by decide +kernel
theorem dX7_init_0 : decode bX7_init 0 = .ok (.aload_n 0, 1) := by decide +kernel
theorem dX7_init_1 : decode bX7_init 1 = .ok (.invokespecial 3, 3) := by decide +kernel
theorem dX7_init_4 : decode bX7_init 4 = .ok (.aload_n 0, 1) := by decide +kernel
theorem dX7_init_5 : decode bX7_init 5 = .ok (.iconst 0, 1) := by decide +kernel
theorem dX7_init_6 : decode bX7_init 6 = .ok (.putfield 9, 3) := by decide +kernel
theorem dX7_init_9 : decode bX7_init 9 = .ok (.aload_n 0, 1) := by decide +kernel
theorem dX7_init_10 : decode bX7_init 10 = .ok (.iconst 0, 1) := by decide +kernel
theorem dX7_init_11 : decode bX7_init 11 = .ok (.putfield 15, 3) := by decide +kernel
theorem dX7_init_14 : decode bX7_init 14 = .ok (.aload_n 0, 1) := by decide +kernel
theorem dX7_init_15 : decode bX7_init 15 = .ok (.iconst 0, 1) := by decide +kernel
theorem dX7_init_16 : decode bX7_init 16 = .ok (.putfield 19, 3) := by decide +kernel
theorem dX7_init_19 : decode bX7_init 19 = .ok (.aload_n 0, 1) := by decide +kernel
theorem dX7_init_20 : decode bX7_init 20 = .ok (.bipush 60, 2) := by decide +kernel
theorem dX7_init_22 : decode bX7_init 22 = .ok (.newarray .long, 2) := by decide +kernel
theorem dX7_init_24 : decode bX7_init 24 = .ok (.putfield 22, 3) := by decide +kernel
theorem dX7_init_27 : decode bX7_init 27 = .ok (.return_, 1) := by decide +kernel
theorem dX7_make_0 : decode bX7_make 0 = .ok (.aload_n 0, 1) := by decide +kernel
theorem dX7_make_1 : decode bX7_make 1 = .ok (.iconst 1, 1) := by decide +kernel
theorem dX7_make_2 : decode bX7_make 2 = .ok (.putfield 9, 3) := by decide +kernel
theorem dX7_make_5 : decode bX7_make 5 = .ok (.aload_n 0, 1) := by decide +kernel
theorem dX7_make_6 : decode bX7_make 6 = .ok (.iload_n 1, 1) := by decide +kernel
theorem dX7_make_7 : decode bX7_make 7 = .ok (.putfield 15, 3) := by decide +kernel
theorem dX7_make_10 : decode bX7_make 10 = .ok (.aload_n 0, 1) := by decide +kernel
theorem dX7_make_11 : decode bX7_make 11 = .ok (.iconst 0, 1) := by decide +kernel
theorem dX7_make_12 : decode bX7_make 12 = .ok (.iload_n 2, 1) := by decide +kernel
theorem dX7_make_13 : decode bX7_make 13 = .ok (.bipush 60, 2) := by decide +kernel
theorem dX7_make_15 : decode bX7_make 15 = .ok (.invokestatic 26, 3) := by decide +kernel
theorem dX7_make_18 : decode bX7_make 18 = .ok (.invokestatic 32, 3) := by decide +kernel
theorem dX7_make_21 : decode bX7_make 21 = .ok (.putfield 19, 3) := by decide +kernel
theorem dX7_make_24 : decode bX7_make 24 = .ok (.aload_n 0, 1) := by decide +kernel
theorem dX7_make_25 : decode bX7_make 25 = .ok (.getfield 22, 3) := by decide +kernel
theorem dX7_make_28 : decode bX7_make 28 = .ok (.lconst 0, 1) := by decide +kernel
theorem dX7_make_29 : decode bX7_make 29 = .ok (.invokestatic 35, 3) := by decide +kernel
theorem dX7_make_32 : decode bX7_make 32 = .ok (.return_, 1) := by decide +kernel
theorem dX7_put_0 : decode bX7_put 0 = .ok (.iload_n 1, 1) := by decide +kernel
theorem dX7_put_1 : decode bX7_put 1 = .ok (.ifCond .lt 20, 3) := by decide +kernel
theorem dX7_put_4 : decode bX7_put 4 = .ok (.iload_n 1, 1) := by decide +kernel
theorem dX7_put_5 : decode bX7_put 5 = .ok (.aload_n 0, 1) := by decide +kernel
theorem dX7_put_6 : decode bX7_put 6 = .ok (.getfield 19, 3) := by decide +kernel
theorem dX7_put_9 : decode bX7_put 9 = .ok (.if_icmp .ge 12, 3) := by decide +kernel
theorem dX7_put_12 : decode bX7_put 12 = .ok (.iload_n 1, 1) := by decide +kernel
theorem dX7_put_13 : decode bX7_put 13 = .ok (.aload_n 0, 1) := by decide +kernel
theorem dX7_put_14 : decode bX7_put 14 = .ok (.getfield 22, 3) := by decide +kernel
theorem dX7_put_17 : decode bX7_put 17 = .ok (.arraylength, 1) := by decide +kernel
theorem dX7_put_18 : decode bX7_put 18 = .ok (.if_icmp .lt 5, 3) := by decide +kernel
theorem dX7_put_21 : decode bX7_put 21 = .ok (.iconst 0, 1) := by decide +kernel
theorem dX7_put_22 : decode bX7_put 22 = .ok (.ireturn, 1) := by decide +kernel
theorem dX7_put_23 : decode bX7_put 23 = .ok (.aload_n 0, 1) := by decide +kernel
theorem dX7_put_24 : decode bX7_put 24 = .ok (.getfield 22, 3) := by decide +kernel
theorem dX7_put_27 : decode bX7_put 27 = .ok (.iload_n 1, 1) := by decide +kernel
theorem dX7_put_28 : decode bX7_put 28 = .ok (.aload_n 0, 1) := by decide +kernel
theorem dX7_put_29 : decode bX7_put 29 = .ok (.lload_n 2, 1) := by decide +kernel
theorem dX7_put_30 : decode bX7_put 30 = .ok (.invokevirtual 41, 3) := by decide +kernel
theorem dX7_put_33 : decode bX7_put 33 = .ok (.lastore, 1) := by decide +kernel
theorem dX7_put_34 : decode bX7_put 34 = .ok (.iconst 1, 1) := by decide +kernel
theorem dX7_put_35 : decode bX7_put 35 = .ok (.ireturn, 1) := by decide +kernel
theorem dX7_cutToWidth_0 : decode bX7_cutToWidth 0 = .ok (.aload_n 0, 1) := by decide +kernel
theorem dX7_cutToWidth_1 : decode bX7_cutToWidth 1 = .ok (.getfield 15, 3) := by decide +kernel
theorem dX7_cutToWidth_4 : decode bX7_cutToWidth 4 = .ok (.tableswitch 42 0 2 #[28, 33, 38], 28) := by decide +kernel
theorem dX7_cutToWidth_32 : decode bX7_cutToWidth 32 = .ok (.lload_n 1, 1) := by decide +kernel
theorem dX7_cutToWidth_33 : decode bX7_cutToWidth 33 = .ok (.l2i, 1) := by decide +kernel
theorem dX7_cutToWidth_34 : decode bX7_cutToWidth 34 = .ok (.i2b, 1) := by decide +kernel
theorem dX7_cutToWidth_35 : decode bX7_cutToWidth 35 = .ok (.i2l, 1) := by decide +kernel
theorem dX7_cutToWidth_36 : decode bX7_cutToWidth 36 = .ok (.lreturn, 1) := by decide +kernel
theorem dX7_cutToWidth_37 : decode bX7_cutToWidth 37 = .ok (.lload_n 1, 1) := by decide +kernel
theorem dX7_cutToWidth_38 : decode bX7_cutToWidth 38 = .ok (.l2i, 1) := by decide +kernel
theorem dX7_cutToWidth_39 : decode bX7_cutToWidth 39 = .ok (.i2s, 1) := by decide +kernel
theorem dX7_cutToWidth_40 : decode bX7_cutToWidth 40 = .ok (.i2l, 1) := by decide +kernel
theorem dX7_cutToWidth_41 : decode bX7_cutToWidth 41 = .ok (.lreturn, 1) := by decide +kernel
theorem dX7_cutToWidth_42 : decode bX7_cutToWidth 42 = .ok (.lload_n 1, 1) := by decide +kernel
theorem dX7_cutToWidth_43 : decode bX7_cutToWidth 43 = .ok (.l2i, 1) := by decide +kernel
theorem dX7_cutToWidth_44 : decode bX7_cutToWidth 44 = .ok (.i2l, 1) := by decide +kernel
theorem dX7_cutToWidth_45 : decode bX7_cutToWidth 45 = .ok (.lreturn, 1) := by decide +kernel
theorem dX7_cutToWidth_46 : decode bX7_cutToWidth 46 = .ok (.lload_n 1, 1) := by decide +kernel
theorem dX7_cutToWidth_47 : decode bX7_cutToWidth 47 = .ok (.lreturn, 1) := by decide +kernel
theorem dX7_holds_0 : decode bX7_holds 0 = .ok (.iload_n 1, 1) := by decide +kernel
theorem dX7_holds_1 : decode bX7_holds 1 = .ok (.ifCond .lt 25, 3) := by decide +kernel
theorem dX7_holds_4 : decode bX7_holds 4 = .ok (.iload_n 2, 1) := by decide +kernel
theorem dX7_holds_5 : decode bX7_holds 5 = .ok (.ifCond .lt 21, 3) := by decide +kernel
theorem dX7_holds_8 : decode bX7_holds 8 = .ok (.iload_n 1, 1) := by decide +kernel
theorem dX7_holds_9 : decode bX7_holds 9 = .ok (.i2l, 1) := by decide +kernel
theorem dX7_holds_10 : decode bX7_holds 10 = .ok (.iload_n 2, 1) := by decide +kernel
theorem dX7_holds_11 : decode bX7_holds 11 = .ok (.i2l, 1) := by decide +kernel
theorem dX7_holds_12 : decode bX7_holds 12 = .ok (.ladd, 1) := by decide +kernel
theorem dX7_holds_13 : decode bX7_holds 13 = .ok (.aload_n 0, 1) := by decide +kernel
theorem dX7_holds_14 : decode bX7_holds 14 = .ok (.getfield 19, 3) := by decide +kernel
theorem dX7_holds_17 : decode bX7_holds 17 = .ok (.i2l, 1) := by decide +kernel
theorem dX7_holds_18 : decode bX7_holds 18 = .ok (.lcmp, 1) := by decide +kernel
theorem dX7_holds_19 : decode bX7_holds 19 = .ok (.ifCond .gt 7, 3) := by decide +kernel
theorem dX7_holds_22 : decode bX7_holds 22 = .ok (.iconst 1, 1) := by decide +kernel
theorem dX7_holds_23 : decode bX7_holds 23 = .ok (.goto 4, 3) := by decide +kernel
theorem dX7_holds_26 : decode bX7_holds 26 = .ok (.iconst 0, 1) := by decide +kernel
theorem dX7_holds_27 : decode bX7_holds 27 = .ok (.ireturn, 1) := by decide +kernel
theorem dX7_tellsSkins_0 : decode bX7_tellsSkins 0 = .ok (.aload_n 0, 1) := by decide +kernel
theorem dX7_tellsSkins_1 : decode bX7_tellsSkins 1 = .ok (.getfield 19, 3) := by decide +kernel
theorem dX7_tellsSkins_4 : decode bX7_tellsSkins 4 = .ok (.iconst 3, 1) := by decide +kernel
theorem dX7_tellsSkins_5 : decode bX7_tellsSkins 5 = .ok (.irem, 1) := by decide +kernel
theorem dX7_tellsSkins_6 : decode bX7_tellsSkins 6 = .ok (.ifCond .eq 5, 3) := by decide +kernel
theorem dX7_tellsSkins_9 : decode bX7_tellsSkins 9 = .ok (.iconst 0, 1) := by decide +kernel
theorem dX7_tellsSkins_10 : decode bX7_tellsSkins 10 = .ok (.ireturn, 1) := by decide +kernel
theorem dX7_tellsSkins_11 : decode bX7_tellsSkins 11 = .ok (.iconst 0, 1) := by decide +kernel
theorem dX7_tellsSkins_12 : decode bX7_tellsSkins 12 = .ok (.istore_n 2, 1) := by decide +kernel
theorem dX7_tellsSkins_13 : decode bX7_tellsSkins 13 = .ok (.iload_n 2, 1) := by decide +kernel
theorem dX7_tellsSkins_14 : decode bX7_tellsSkins 14 = .ok (.iconst 2, 1) := by decide +kernel
theorem dX7_tellsSkins_15 : decode bX7_tellsSkins 15 = .ok (.iadd, 1) := by decide +kernel
theorem dX7_tellsSkins_16 : decode bX7_tellsSkins 16 = .ok (.aload_n 0, 1) := by decide +kernel
theorem dX7_tellsSkins_17 : decode bX7_tellsSkins 17 = .ok (.getfield 19, 3) := by decide +kernel
theorem dX7_tellsSkins_20 : decode bX7_tellsSkins 20 = .ok (.if_icmp .ge 90, 3) := by decide +kernel
theorem dX7_tellsSkins_23 : decode bX7_tellsSkins 23 = .ok (.aload_n 0, 1) := by decide +kernel
theorem dX7_tellsSkins_24 : decode bX7_tellsSkins 24 = .ok (.getfield 22, 3) := by decide +kernel
theorem dX7_tellsSkins_27 : decode bX7_tellsSkins 27 = .ok (.iload_n 2, 1) := by decide +kernel
theorem dX7_tellsSkins_28 : decode bX7_tellsSkins 28 = .ok (.iconst 2, 1) := by decide +kernel
theorem dX7_tellsSkins_29 : decode bX7_tellsSkins 29 = .ok (.iadd, 1) := by decide +kernel
theorem dX7_tellsSkins_30 : decode bX7_tellsSkins 30 = .ok (.laload, 1) := by decide +kernel
theorem dX7_tellsSkins_31 : decode bX7_tellsSkins 31 = .ok (.lstore_n 3, 1) := by decide +kernel
theorem dX7_tellsSkins_32 : decode bX7_tellsSkins 32 = .ok (.aload_n 0, 1) := by decide +kernel
theorem dX7_tellsSkins_33 : decode bX7_tellsSkins 33 = .ok (.getfield 22, 3) := by decide +kernel
theorem dX7_tellsSkins_36 : decode bX7_tellsSkins 36 = .ok (.iload_n 2, 1) := by decide +kernel
theorem dX7_tellsSkins_37 : decode bX7_tellsSkins 37 = .ok (.laload, 1) := by decide +kernel
theorem dX7_tellsSkins_38 : decode bX7_tellsSkins 38 = .ok (.lconst 0, 1) := by decide +kernel
theorem dX7_tellsSkins_39 : decode bX7_tellsSkins 39 = .ok (.lcmp, 1) := by decide +kernel
theorem dX7_tellsSkins_40 : decode bX7_tellsSkins 40 = .ok (.ifCond .lt 62, 3) := by decide +kernel
theorem dX7_tellsSkins_43 : decode bX7_tellsSkins 43 = .ok (.aload_n 0, 1) := by decide +kernel
theorem dX7_tellsSkins_44 : decode bX7_tellsSkins 44 = .ok (.getfield 22, 3) := by decide +kernel
theorem dX7_tellsSkins_47 : decode bX7_tellsSkins 47 = .ok (.iload_n 2, 1) := by decide +kernel
theorem dX7_tellsSkins_48 : decode bX7_tellsSkins 48 = .ok (.laload, 1) := by decide +kernel
theorem dX7_tellsSkins_49 : decode bX7_tellsSkins 49 = .ok (.aload_n 1, 1) := by decide +kernel
theorem dX7_tellsSkins_50 : decode bX7_tellsSkins 50 = .ok (.getfield 45, 3) := by decide +kernel
theorem dX7_tellsSkins_53 : decode bX7_tellsSkins 53 = .ok (.i2l, 1) := by decide +kernel
theorem dX7_tellsSkins_54 : decode bX7_tellsSkins 54 = .ok (.lcmp, 1) := by decide +kernel
theorem dX7_tellsSkins_55 : decode bX7_tellsSkins 55 = .ok (.ifCond .ge 47, 3) := by decide +kernel
theorem dX7_tellsSkins_58 : decode bX7_tellsSkins 58 = .ok (.aload_n 0, 1) := by decide +kernel
theorem dX7_tellsSkins_59 : decode bX7_tellsSkins 59 = .ok (.getfield 22, 3) := by decide +kernel
theorem dX7_tellsSkins_62 : decode bX7_tellsSkins 62 = .ok (.iload_n 2, 1) := by decide +kernel
theorem dX7_tellsSkins_63 : decode bX7_tellsSkins 63 = .ok (.iconst 1, 1) := by decide +kernel
theorem dX7_tellsSkins_64 : decode bX7_tellsSkins 64 = .ok (.iadd, 1) := by decide +kernel
theorem dX7_tellsSkins_65 : decode bX7_tellsSkins 65 = .ok (.laload, 1) := by decide +kernel
theorem dX7_tellsSkins_66 : decode bX7_tellsSkins 66 = .ok (.lconst 0, 1) := by decide +kernel
theorem dX7_tellsSkins_67 : decode bX7_tellsSkins 67 = .ok (.lcmp, 1) := by decide +kernel
theorem dX7_tellsSkins_68 : decode bX7_tellsSkins 68 = .ok (.ifCond .lt 34, 3) := by decide +kernel
theorem dX7_tellsSkins_71 : decode bX7_tellsSkins 71 = .ok (.aload_n 0, 1) := by decide +kernel
theorem dX7_tellsSkins_72 : decode bX7_tellsSkins 72 = .ok (.getfield 22, 3) := by decide +kernel
theorem dX7_tellsSkins_75 : decode bX7_tellsSkins 75 = .ok (.iload_n 2, 1) := by decide +kernel
theorem dX7_tellsSkins_76 : decode bX7_tellsSkins 76 = .ok (.iconst 1, 1) := by decide +kernel
theorem dX7_tellsSkins_77 : decode bX7_tellsSkins 77 = .ok (.iadd, 1) := by decide +kernel
theorem dX7_tellsSkins_78 : decode bX7_tellsSkins 78 = .ok (.laload, 1) := by decide +kernel
theorem dX7_tellsSkins_79 : decode bX7_tellsSkins 79 = .ok (.aload_n 1, 1) := by decide +kernel
theorem dX7_tellsSkins_80 : decode bX7_tellsSkins 80 = .ok (.getfield 50, 3) := by decide +kernel
theorem dX7_tellsSkins_83 : decode bX7_tellsSkins 83 = .ok (.i2l, 1) := by decide +kernel
theorem dX7_tellsSkins_84 : decode bX7_tellsSkins 84 = .ok (.lcmp, 1) := by decide +kernel
theorem dX7_tellsSkins_85 : decode bX7_tellsSkins 85 = .ok (.ifCond .gt 17, 3) := by decide +kernel
theorem dX7_tellsSkins_88 : decode bX7_tellsSkins 88 = .ok (.lload_n 3, 1) := by decide +kernel
theorem dX7_tellsSkins_89 : decode bX7_tellsSkins 89 = .ok (.lconst 0, 1) := by decide +kernel
theorem dX7_tellsSkins_90 : decode bX7_tellsSkins 90 = .ok (.lcmp, 1) := by decide +kernel
theorem dX7_tellsSkins_91 : decode bX7_tellsSkins 91 = .ok (.ifCond .lt 11, 3) := by decide +kernel
theorem dX7_tellsSkins_94 : decode bX7_tellsSkins 94 = .ok (.lload_n 3, 1) := by decide +kernel
theorem dX7_tellsSkins_95 : decode bX7_tellsSkins 95 = .ok (.ldc2_w 53, 3) := by decide +kernel
theorem dX7_tellsSkins_98 : decode bX7_tellsSkins 98 = .ok (.lcmp, 1) := by decide +kernel
theorem dX7_tellsSkins_99 : decode bX7_tellsSkins 99 = .ok (.ifCond .le 5, 3) := by decide +kernel
theorem dX7_tellsSkins_102 : decode bX7_tellsSkins 102 = .ok (.iconst 0, 1) := by decide +kernel
theorem dX7_tellsSkins_103 : decode bX7_tellsSkins 103 = .ok (.ireturn, 1) := by decide +kernel
theorem dX7_tellsSkins_104 : decode bX7_tellsSkins 104 = .ok (.iinc 2 3, 3) := by decide +kernel
theorem dX7_tellsSkins_107 : decode bX7_tellsSkins 107 = .ok (.goto (-94), 3) := by decide +kernel
theorem dX7_tellsSkins_110 : decode bX7_tellsSkins 110 = .ok (.iconst 1, 1) := by decide +kernel
theorem dX7_tellsSkins_111 : decode bX7_tellsSkins 111 = .ok (.ireturn, 1) := by decide +kernel
theorem dX7_piecesTold_0 : decode bX7_piecesTold 0 = .ok (.iconst 0, 1) := by decide +kernel
theorem dX7_piecesTold_1 : decode bX7_piecesTold 1 = .ok (.istore_n 1, 1) := by decide +kernel
theorem dX7_piecesTold_2 : decode bX7_piecesTold 2 = .ok (.iconst 0, 1) := by decide +kernel
theorem dX7_piecesTold_3 : decode bX7_piecesTold 3 = .ok (.istore_n 2, 1) := by decide +kernel
theorem dX7_piecesTold_4 : decode bX7_piecesTold 4 = .ok (.iload_n 2, 1) := by decide +kernel
theorem dX7_piecesTold_5 : decode bX7_piecesTold 5 = .ok (.iconst 2, 1) := by decide +kernel
theorem dX7_piecesTold_6 : decode bX7_piecesTold 6 = .ok (.iadd, 1) := by decide +kernel
theorem dX7_piecesTold_7 : decode bX7_piecesTold 7 = .ok (.aload_n 0, 1) := by decide +kernel
theorem dX7_piecesTold_8 : decode bX7_piecesTold 8 = .ok (.getfield 19, 3) := by decide +kernel
theorem dX7_piecesTold_11 : decode bX7_piecesTold 11 = .ok (.if_icmp .ge 21, 3) := by decide +kernel
theorem dX7_piecesTold_14 : decode bX7_piecesTold 14 = .ok (.iload_n 1, 1) := by decide +kernel
theorem dX7_piecesTold_15 : decode bX7_piecesTold 15 = .ok (.iconst 1, 1) := by decide +kernel
theorem dX7_piecesTold_16 : decode bX7_piecesTold 16 = .ok (.aload_n 0, 1) := by decide +kernel
theorem dX7_piecesTold_17 : decode bX7_piecesTold 17 = .ok (.getfield 22, 3) := by decide +kernel
theorem dX7_piecesTold_20 : decode bX7_piecesTold 20 = .ok (.iload_n 2, 1) := by decide +kernel
theorem dX7_piecesTold_21 : decode bX7_piecesTold 21 = .ok (.laload, 1) := by decide +kernel
theorem dX7_piecesTold_22 : decode bX7_piecesTold 22 = .ok (.l2i, 1) := by decide +kernel
theorem dX7_piecesTold_23 : decode bX7_piecesTold 23 = .ok (.ishl, 1) := by decide +kernel
theorem dX7_piecesTold_24 : decode bX7_piecesTold 24 = .ok (.ior, 1) := by decide +kernel
theorem dX7_piecesTold_25 : decode bX7_piecesTold 25 = .ok (.istore_n 1, 1) := by decide +kernel
theorem dX7_piecesTold_26 : decode bX7_piecesTold 26 = .ok (.iinc 2 3, 3) := by decide +kernel
theorem dX7_piecesTold_29 : decode bX7_piecesTold 29 = .ok (.goto (-25), 3) := by decide +kernel
theorem dX7_piecesTold_32 : decode bX7_piecesTold 32 = .ok (.iload_n 1, 1) := by decide +kernel
theorem dX7_piecesTold_33 : decode bX7_piecesTold 33 = .ok (.ireturn, 1) := by decide +kernel
theorem dX7_lastStepTold_0 : decode bX7_lastStepTold 0 = .ok (.iconst 0, 1) := by decide +kernel
theorem dX7_lastStepTold_1 : decode bX7_lastStepTold 1 = .ok (.istore_n 1, 1) := by decide +kernel
theorem dX7_lastStepTold_2 : decode bX7_lastStepTold 2 = .ok (.iconst 0, 1) := by decide +kernel
theorem dX7_lastStepTold_3 : decode bX7_lastStepTold 3 = .ok (.istore_n 2, 1) := by decide +kernel
theorem dX7_lastStepTold_4 : decode bX7_lastStepTold 4 = .ok (.iload_n 2, 1) := by decide +kernel
theorem dX7_lastStepTold_5 : decode bX7_lastStepTold 5 = .ok (.iconst 2, 1) := by decide +kernel
theorem dX7_lastStepTold_6 : decode bX7_lastStepTold 6 = .ok (.iadd, 1) := by decide +kernel
theorem dX7_lastStepTold_7 : decode bX7_lastStepTold 7 = .ok (.aload_n 0, 1) := by decide +kernel
theorem dX7_lastStepTold_8 : decode bX7_lastStepTold 8 = .ok (.getfield 19, 3) := by decide +kernel
theorem dX7_lastStepTold_11 : decode bX7_lastStepTold 11 = .ok (.if_icmp .ge 23, 3) := by decide +kernel
theorem dX7_lastStepTold_14 : decode bX7_lastStepTold 14 = .ok (.iload_n 1, 1) := by decide +kernel
theorem dX7_lastStepTold_15 : decode bX7_lastStepTold 15 = .ok (.aload_n 0, 1) := by decide +kernel
theorem dX7_lastStepTold_16 : decode bX7_lastStepTold 16 = .ok (.getfield 22, 3) := by decide +kernel
theorem dX7_lastStepTold_19 : decode bX7_lastStepTold 19 = .ok (.iload_n 2, 1) := by decide +kernel
theorem dX7_lastStepTold_20 : decode bX7_lastStepTold 20 = .ok (.iconst 1, 1) := by decide +kernel
theorem dX7_lastStepTold_21 : decode bX7_lastStepTold 21 = .ok (.iadd, 1) := by decide +kernel
theorem dX7_lastStepTold_22 : decode bX7_lastStepTold 22 = .ok (.laload, 1) := by decide +kernel
theorem dX7_lastStepTold_23 : decode bX7_lastStepTold 23 = .ok (.l2i, 1) := by decide +kernel
theorem dX7_lastStepTold_24 : decode bX7_lastStepTold 24 = .ok (.invokestatic 32, 3) := by decide +kernel
theorem dX7_lastStepTold_27 : decode bX7_lastStepTold 27 = .ok (.istore_n 1, 1) := by decide +kernel
theorem dX7_lastStepTold_28 : decode bX7_lastStepTold 28 = .ok (.iinc 2 3, 3) := by decide +kernel
theorem dX7_lastStepTold_31 : decode bX7_lastStepTold 31 = .ok (.goto (-27), 3) := by decide +kernel
theorem dX7_lastStepTold_34 : decode bX7_lastStepTold 34 = .ok (.iload_n 1, 1) := by decide +kernel
theorem dX7_lastStepTold_35 : decode bX7_lastStepTold 35 = .ok (.ireturn, 1) := by decide +kernel
theorem dX7_agreesWith_0 : decode bX7_agreesWith 0 = .ok (.iconst 0, 1) := by decide +kernel
theorem dX7_agreesWith_1 : decode bX7_agreesWith 1 = .ok (.istore_n 2, 1) := by decide +kernel
theorem dX7_agreesWith_2 : decode bX7_agreesWith 2 = .ok (.iload_n 2, 1) := by decide +kernel
theorem dX7_agreesWith_3 : decode bX7_agreesWith 3 = .ok (.iconst 2, 1) := by decide +kernel
theorem dX7_agreesWith_4 : decode bX7_agreesWith 4 = .ok (.iadd, 1) := by decide +kernel
theorem dX7_agreesWith_5 : decode bX7_agreesWith 5 = .ok (.aload_n 0, 1) := by decide +kernel
theorem dX7_agreesWith_6 : decode bX7_agreesWith 6 = .ok (.getfield 19, 3) := by decide +kernel
theorem dX7_agreesWith_9 : decode bX7_agreesWith 9 = .ok (.if_icmp .ge 44, 3) := by decide +kernel
theorem dX7_agreesWith_12 : decode bX7_agreesWith 12 = .ok (.aload_n 1, 1) := by decide +kernel
theorem dX7_agreesWith_13 : decode bX7_agreesWith 13 = .ok (.aload_n 0, 1) := by decide +kernel
theorem dX7_agreesWith_14 : decode bX7_agreesWith 14 = .ok (.getfield 22, 3) := by decide +kernel
theorem dX7_agreesWith_17 : decode bX7_agreesWith 17 = .ok (.iload_n 2, 1) := by decide +kernel
theorem dX7_agreesWith_18 : decode bX7_agreesWith 18 = .ok (.laload, 1) := by decide +kernel
theorem dX7_agreesWith_19 : decode bX7_agreesWith 19 = .ok (.l2i, 1) := by decide +kernel
theorem dX7_agreesWith_20 : decode bX7_agreesWith 20 = .ok (.aload_n 0, 1) := by decide +kernel
theorem dX7_agreesWith_21 : decode bX7_agreesWith 21 = .ok (.getfield 22, 3) := by decide +kernel
theorem dX7_agreesWith_24 : decode bX7_agreesWith 24 = .ok (.iload_n 2, 1) := by decide +kernel
theorem dX7_agreesWith_25 : decode bX7_agreesWith 25 = .ok (.iconst 1, 1) := by decide +kernel
theorem dX7_agreesWith_26 : decode bX7_agreesWith 26 = .ok (.iadd, 1) := by decide +kernel
theorem dX7_agreesWith_27 : decode bX7_agreesWith 27 = .ok (.laload, 1) := by decide +kernel
theorem dX7_agreesWith_28 : decode bX7_agreesWith 28 = .ok (.l2i, 1) := by decide +kernel
theorem dX7_agreesWith_29 : decode bX7_agreesWith 29 = .ok (.invokevirtual 55, 3) := by decide +kernel
theorem dX7_agreesWith_32 : decode bX7_agreesWith 32 = .ok (.i2l, 1) := by decide +kernel
theorem dX7_agreesWith_33 : decode bX7_agreesWith 33 = .ok (.aload_n 0, 1) := by decide +kernel
theorem dX7_agreesWith_34 : decode bX7_agreesWith 34 = .ok (.getfield 22, 3) := by decide +kernel
theorem dX7_agreesWith_37 : decode bX7_agreesWith 37 = .ok (.iload_n 2, 1) := by decide +kernel
theorem dX7_agreesWith_38 : decode bX7_agreesWith 38 = .ok (.iconst 2, 1) := by decide +kernel
theorem dX7_agreesWith_39 : decode bX7_agreesWith 39 = .ok (.iadd, 1) := by decide +kernel
theorem dX7_agreesWith_40 : decode bX7_agreesWith 40 = .ok (.laload, 1) := by decide +kernel
theorem dX7_agreesWith_41 : decode bX7_agreesWith 41 = .ok (.lcmp, 1) := by decide +kernel
theorem dX7_agreesWith_42 : decode bX7_agreesWith 42 = .ok (.ifCond .eq 5, 3) := by decide +kernel
theorem dX7_agreesWith_45 : decode bX7_agreesWith 45 = .ok (.iconst 0, 1) := by decide +kernel
theorem dX7_agreesWith_46 : decode bX7_agreesWith 46 = .ok (.ireturn, 1) := by decide +kernel
theorem dX7_agreesWith_47 : decode bX7_agreesWith 47 = .ok (.iinc 2 3, 3) := by decide +kernel
theorem dX7_agreesWith_50 : decode bX7_agreesWith 50 = .ok (.goto (-48), 3) := by decide +kernel
theorem dX7_agreesWith_53 : decode bX7_agreesWith 53 = .ok (.iconst 1, 1) := by decide +kernel
theorem dX7_agreesWith_54 : decode bX7_agreesWith 54 = .ok (.ireturn, 1) := by decide +kernel
theorem dX8_init_0 : decode bX8_init 0 = .ok (.aload_n 0, 1) := by decide +kernel
theorem dX8_init_1 : decode bX8_init 1 = .ok (.invokespecial 3, 3) := by decide +kernel
theorem dX8_init_4 : decode bX8_init 4 = .ok (.aload_n 0, 1) := by decide +kernel
theorem dX8_init_5 : decode bX8_init 5 = .ok (.sipush 600, 3) := by decide +kernel
theorem dX8_init_8 : decode bX8_init 8 = .ok (.newarray .byte, 2) := by decide +kernel
theorem dX8_init_10 : decode bX8_init 10 = .ok (.putfield 9, 3) := by decide +kernel
theorem dX8_init_13 : decode bX8_init 13 = .ok (.aload_n 0, 1) := by decide +kernel
theorem dX8_init_14 : decode bX8_init 14 = .ok (.iconst 0, 1) := by decide +kernel
theorem dX8_init_15 : decode bX8_init 15 = .ok (.putfield 15, 3) := by decide +kernel
theorem dX8_init_18 : decode bX8_init 18 = .ok (.return_, 1) := by decide +kernel
theorem dX8_hasRoom_0 : decode bX8_hasRoom 0 = .ok (.aload_n 0, 1) := by decide +kernel
theorem dX8_hasRoom_1 : decode bX8_hasRoom 1 = .ok (.getfield 15, 3) := by decide +kernel
theorem dX8_hasRoom_4 : decode bX8_hasRoom 4 = .ok (.iload_n 1, 1) := by decide +kernel
theorem dX8_hasRoom_5 : decode bX8_hasRoom 5 = .ok (.iadd, 1) := by decide +kernel
theorem dX8_hasRoom_6 : decode bX8_hasRoom 6 = .ok (.sipush 600, 3) := by decide +kernel
theorem dX8_hasRoom_9 : decode bX8_hasRoom 9 = .ok (.if_icmp .gt 7, 3) := by decide +kernel
theorem dX8_hasRoom_12 : decode bX8_hasRoom 12 = .ok (.iconst 1, 1) := by decide +kernel
theorem dX8_hasRoom_13 : decode bX8_hasRoom 13 = .ok (.goto 4, 3) := by decide +kernel
theorem dX8_hasRoom_16 : decode bX8_hasRoom 16 = .ok (.iconst 0, 1) := by decide +kernel
theorem dX8_hasRoom_17 : decode bX8_hasRoom 17 = .ok (.ireturn, 1) := by decide +kernel
theorem dX8_append_0 : decode bX8_append 0 = .ok (.bipush 24, 2) := by decide +kernel
theorem dX8_append_2 : decode bX8_append 2 = .ok (.istore_n 2, 1) := by decide +kernel
theorem dX8_append_3 : decode bX8_append 3 = .ok (.iload_n 2, 1) := by decide +kernel
theorem dX8_append_4 : decode bX8_append 4 = .ok (.ifCond .lt 44, 3) := by decide +kernel
theorem dX8_append_7 : decode bX8_append 7 = .ok (.aload_n 0, 1) := by decide +kernel
theorem dX8_append_8 : decode bX8_append 8 = .ok (.getfield 15, 3) := by decide +kernel
theorem dX8_append_11 : decode bX8_append 11 = .ok (.aload_n 0, 1) := by decide +kernel
theorem dX8_append_12 : decode bX8_append 12 = .ok (.getfield 9, 3) := by decide +kernel
theorem dX8_append_15 : decode bX8_append 15 = .ok (.arraylength, 1) := by decide +kernel
theorem dX8_append_16 : decode bX8_append 16 = .ok (.if_icmp .ge 32, 3) := by decide +kernel
theorem dX8_append_19 : decode bX8_append 19 = .ok (.aload_n 0, 1) := by decide +kernel
theorem dX8_append_20 : decode bX8_append 20 = .ok (.getfield 9, 3) := by decide +kernel
theorem dX8_append_23 : decode bX8_append 23 = .ok (.aload_n 0, 1) := by decide +kernel
theorem dX8_append_24 : decode bX8_append 24 = .ok (.getfield 15, 3) := by decide +kernel
theorem dX8_append_27 : decode bX8_append 27 = .ok (.iload_n 1, 1) := by decide +kernel
theorem dX8_append_28 : decode bX8_append 28 = .ok (.iload_n 2, 1) := by decide +kernel
theorem dX8_append_29 : decode bX8_append 29 = .ok (.ishr, 1) := by decide +kernel
theorem dX8_append_30 : decode bX8_append 30 = .ok (.i2b, 1) := by decide +kernel
theorem dX8_append_31 : decode bX8_append 31 = .ok (.bastore, 1) := by decide +kernel
theorem dX8_append_32 : decode bX8_append 32 = .ok (.aload_n 0, 1) := by decide +kernel
theorem dX8_append_33 : decode bX8_append 33 = .ok (.dup, 1) := by decide +kernel
theorem dX8_append_34 : decode bX8_append 34 = .ok (.getfield 15, 3) := by decide +kernel
theorem dX8_append_37 : decode bX8_append 37 = .ok (.iconst 1, 1) := by decide +kernel
theorem dX8_append_38 : decode bX8_append 38 = .ok (.iadd, 1) := by decide +kernel
theorem dX8_append_39 : decode bX8_append 39 = .ok (.putfield 15, 3) := by decide +kernel
theorem dX8_append_42 : decode bX8_append 42 = .ok (.iinc 2 (-8), 3) := by decide +kernel
theorem dX8_append_45 : decode bX8_append 45 = .ok (.goto (-42), 3) := by decide +kernel
theorem dX8_append_48 : decode bX8_append 48 = .ok (.return_, 1) := by decide +kernel
theorem dX8_cutTo_0 : decode bX8_cutTo 0 = .ok (.iload_n 1, 1) := by decide +kernel
theorem dX8_cutTo_1 : decode bX8_cutTo 1 = .ok (.ifCond .lt 11, 3) := by decide +kernel
theorem dX8_cutTo_4 : decode bX8_cutTo 4 = .ok (.iload_n 1, 1) := by decide +kernel
theorem dX8_cutTo_5 : decode bX8_cutTo 5 = .ok (.aload_n 0, 1) := by decide +kernel
theorem dX8_cutTo_6 : decode bX8_cutTo 6 = .ok (.getfield 15, 3) := by decide +kernel
theorem dX8_cutTo_9 : decode bX8_cutTo 9 = .ok (.if_icmp .le 5, 3) := by decide +kernel
theorem dX8_cutTo_12 : decode bX8_cutTo 12 = .ok (.iconst 0, 1) := by decide +kernel
theorem dX8_cutTo_13 : decode bX8_cutTo 13 = .ok (.ireturn, 1) := by decide +kernel
theorem dX8_cutTo_14 : decode bX8_cutTo 14 = .ok (.aload_n 0, 1) := by decide +kernel
theorem dX8_cutTo_15 : decode bX8_cutTo 15 = .ok (.iload_n 1, 1) := by decide +kernel
theorem dX8_cutTo_16 : decode bX8_cutTo 16 = .ok (.putfield 15, 3) := by decide +kernel
theorem dX8_cutTo_19 : decode bX8_cutTo 19 = .ok (.iconst 1, 1) := by decide +kernel
theorem dX8_cutTo_20 : decode bX8_cutTo 20 = .ok (.ireturn, 1) := by decide +kernel
theorem dX8_byteAt_0 : decode bX8_byteAt 0 = .ok (.iload_n 1, 1) := by decide +kernel
theorem dX8_byteAt_1 : decode bX8_byteAt 1 = .ok (.ifCond .lt 29, 3) := by decide +kernel
theorem dX8_byteAt_4 : decode bX8_byteAt 4 = .ok (.iload_n 1, 1) := by decide +kernel
theorem dX8_byteAt_5 : decode bX8_byteAt 5 = .ok (.aload_n 0, 1) := by decide +kernel
theorem dX8_byteAt_6 : decode bX8_byteAt 6 = .ok (.getfield 15, 3) := by decide +kernel
theorem dX8_byteAt_9 : decode bX8_byteAt 9 = .ok (.if_icmp .ge 21, 3) := by decide +kernel
theorem dX8_byteAt_12 : decode bX8_byteAt 12 = .ok (.iload_n 1, 1) := by decide +kernel
theorem dX8_byteAt_13 : decode bX8_byteAt 13 = .ok (.aload_n 0, 1) := by decide +kernel
theorem dX8_byteAt_14 : decode bX8_byteAt 14 = .ok (.getfield 9, 3) := by decide +kernel
theorem dX8_byteAt_17 : decode bX8_byteAt 17 = .ok (.arraylength, 1) := by decide +kernel
theorem dX8_byteAt_18 : decode bX8_byteAt 18 = .ok (.if_icmp .ge 12, 3) := by decide +kernel
theorem dX8_byteAt_21 : decode bX8_byteAt 21 = .ok (.aload_n 0, 1) := by decide +kernel
theorem dX8_byteAt_22 : decode bX8_byteAt 22 = .ok (.getfield 9, 3) := by decide +kernel
theorem dX8_byteAt_25 : decode bX8_byteAt 25 = .ok (.iload_n 1, 1) := by decide +kernel
theorem dX8_byteAt_26 : decode bX8_byteAt 26 = .ok (.baload, 1) := by decide +kernel
theorem dX8_byteAt_27 : decode bX8_byteAt 27 = .ok (.goto 5, 3) := by decide +kernel
theorem dX8_byteAt_30 : decode bX8_byteAt 30 = .ok (.bipush 32, 2) := by decide +kernel
theorem dX8_byteAt_32 : decode bX8_byteAt 32 = .ok (.ireturn, 1) := by decide +kernel
