theorem dX1_init_0 : decode cX1_init 0 = .ok (.aload_n 0, 1) := by decide +kernel
theorem dX1_init_1 : decode cX1_init 1 = .ok (.invokespecial 3, 3) := by decide +kernel
theorem dX1_init_4 : decode cX1_init 4 = .ok (.aload_n 0, 1) := by decide +kernel
theorem dX1_init_5 : decode cX1_init 5 = .ok (.iconst 4, 1) := by decide +kernel
theorem dX1_init_6 : decode cX1_init 6 = .ok (.newarray .int, 2) := by decide +kernel
theorem dX1_init_8 : decode cX1_init 8 = .ok (.putfield 9, 3) := by decide +kernel
theorem dX1_init_11 : decode cX1_init 11 = .ok (.aload_n 0, 1) := by decide +kernel
theorem dX1_init_12 : decode cX1_init 12 = .ok (.iconst 4, 1) := by decide +kernel
theorem dX1_init_13 : decode cX1_init 13 = .ok (.newarray .int, 2) := by decide +kernel
theorem dX1_init_15 : decode cX1_init 15 = .ok (.putfield 15, 3) := by decide +kernel
theorem dX1_init_18 : decode cX1_init 18 = .ok (.aload_n 0, 1) := by decide +kernel
theorem dX1_init_19 : decode cX1_init 19 = .ok (.iconst 4, 1) := by decide +kernel
theorem dX1_init_20 : decode cX1_init 20 = .ok (.newarray .int, 2) := by decide +kernel
theorem dX1_init_22 : decode cX1_init 22 = .ok (.putfield 18, 3) := by decide +kernel
theorem dX1_init_25 : decode cX1_init 25 = .ok (.return_, 1) := by decide +kernel
theorem dX1_copyFrom_0 : decode cX1_copyFrom 0 = .ok (.aload_n 0, 1) := by decide +kernel
theorem dX1_copyFrom_1 : decode cX1_copyFrom 1 = .ok (.aload_n 1, 1) := by decide +kernel
theorem dX1_copyFrom_2 : decode cX1_copyFrom 2 = .ok (.getfield 21, 3) := by decide +kernel
theorem dX1_copyFrom_5 : decode cX1_copyFrom 5 = .ok (.putfield 21, 3) := by decide +kernel
theorem dX1_copyFrom_8 : decode cX1_copyFrom 8 = .ok (.aload_n 0, 1) := by decide +kernel
theorem dX1_copyFrom_9 : decode cX1_copyFrom 9 = .ok (.aload_n 1, 1) := by decide +kernel
theorem dX1_copyFrom_10 : decode cX1_copyFrom 10 = .ok (.getfield 25, 3) := by decide +kernel
theorem dX1_copyFrom_13 : decode cX1_copyFrom 13 = .ok (.putfield 25, 3) := by decide +kernel
theorem dX1_copyFrom_16 : decode cX1_copyFrom 16 = .ok (.iconst 0, 1) := by decide +kernel
theorem dX1_copyFrom_17 : decode cX1_copyFrom 17 = .ok (.istore_n 2, 1) := by decide +kernel
theorem dX1_copyFrom_18 : decode cX1_copyFrom 18 = .ok (.iload_n 2, 1) := by decide +kernel
theorem dX1_copyFrom_19 : decode cX1_copyFrom 19 = .ok (.aload_n 0, 1) := by decide +kernel
theorem dX1_copyFrom_20 : decode cX1_copyFrom 20 = .ok (.getfield 21, 3) := by decide +kernel
theorem dX1_copyFrom_23 : decode cX1_copyFrom 23 = .ok (.if_icmp .ge 45, 3) := by decide +kernel
theorem dX1_copyFrom_26 : decode cX1_copyFrom 26 = .ok (.aload_n 0, 1) := by decide +kernel
theorem dX1_copyFrom_27 : decode cX1_copyFrom 27 = .ok (.getfield 9, 3) := by decide +kernel
theorem dX1_copyFrom_30 : decode cX1_copyFrom 30 = .ok (.iload_n 2, 1) := by decide +kernel
theorem dX1_copyFrom_31 : decode cX1_copyFrom 31 = .ok (.aload_n 1, 1) := by decide +kernel
theorem dX1_copyFrom_32 : decode cX1_copyFrom 32 = .ok (.getfield 9, 3) := by decide +kernel
theorem dX1_copyFrom_35 : decode cX1_copyFrom 35 = .ok (.iload_n 2, 1) := by decide +kernel
theorem dX1_copyFrom_36 : decode cX1_copyFrom 36 = .ok (.iaload, 1) := by decide +kernel
theorem dX1_copyFrom_37 : decode cX1_copyFrom 37 = .ok (.iastore, 1) := by decide +kernel
theorem dX1_copyFrom_38 : decode cX1_copyFrom 38 = .ok (.aload_n 0, 1) := by decide +kernel
theorem dX1_copyFrom_39 : decode cX1_copyFrom 39 = .ok (.getfield 15, 3) := by decide +kernel
theorem dX1_copyFrom_42 : decode cX1_copyFrom 42 = .ok (.iload_n 2, 1) := by decide +kernel
theorem dX1_copyFrom_43 : decode cX1_copyFrom 43 = .ok (.aload_n 1, 1) := by decide +kernel
theorem dX1_copyFrom_44 : decode cX1_copyFrom 44 = .ok (.getfield 15, 3) := by decide +kernel
theorem dX1_copyFrom_47 : decode cX1_copyFrom 47 = .ok (.iload_n 2, 1) := by decide +kernel
theorem dX1_copyFrom_48 : decode cX1_copyFrom 48 = .ok (.iaload, 1) := by decide +kernel
theorem dX1_copyFrom_49 : decode cX1_copyFrom 49 = .ok (.iastore, 1) := by decide +kernel
theorem dX1_copyFrom_50 : decode cX1_copyFrom 50 = .ok (.aload_n 0, 1) := by decide +kernel
theorem dX1_copyFrom_51 : decode cX1_copyFrom 51 = .ok (.getfield 18, 3) := by decide +kernel
theorem dX1_copyFrom_54 : decode cX1_copyFrom 54 = .ok (.iload_n 2, 1) := by decide +kernel
theorem dX1_copyFrom_55 : decode cX1_copyFrom 55 = .ok (.aload_n 1, 1) := by decide +kernel
theorem dX1_copyFrom_56 : decode cX1_copyFrom 56 = .ok (.getfield 18, 3) := by decide +kernel
theorem dX1_copyFrom_59 : decode cX1_copyFrom 59 = .ok (.iload_n 2, 1) := by decide +kernel
theorem dX1_copyFrom_60 : decode cX1_copyFrom 60 = .ok (.iaload, 1) := by decide +kernel
theorem dX1_copyFrom_61 : decode cX1_copyFrom 61 = .ok (.iastore, 1) := by decide +kernel
theorem dX1_copyFrom_62 : decode cX1_copyFrom 62 = .ok (.iinc 2 1, 3) := by decide +kernel
theorem dX1_copyFrom_65 : decode cX1_copyFrom 65 = .ok (.goto (-47), 3) := by decide +kernel
theorem dX1_copyFrom_68 : decode cX1_copyFrom 68 = .ok (.return_, 1) := by decide +kernel
theorem dX1_hasPlayer_0 : decode cX1_hasPlayer 0 = .ok (.iload_n 1, 1) := by decide +kernel
theorem dX1_hasPlayer_1 : decode cX1_hasPlayer 1 = .ok (.ifCond .lt 15, 3) := by decide +kernel
theorem dX1_hasPlayer_4 : decode cX1_hasPlayer 4 = .ok (.iload_n 1, 1) := by decide +kernel
theorem dX1_hasPlayer_5 : decode cX1_hasPlayer 5 = .ok (.aload_n 0, 1) := by decide +kernel
theorem dX1_hasPlayer_6 : decode cX1_hasPlayer 6 = .ok (.getfield 21, 3) := by decide +kernel
theorem dX1_hasPlayer_9 : decode cX1_hasPlayer 9 = .ok (.if_icmp .ge 7, 3) := by decide +kernel
theorem dX1_hasPlayer_12 : decode cX1_hasPlayer 12 = .ok (.iconst 1, 1) := by decide +kernel
theorem dX1_hasPlayer_13 : decode cX1_hasPlayer 13 = .ok (.goto 4, 3) := by decide +kernel
theorem dX1_hasPlayer_16 : decode cX1_hasPlayer 16 = .ok (.iconst 0, 1) := by decide +kernel
theorem dX1_hasPlayer_17 : decode cX1_hasPlayer 17 = .ok (.ireturn, 1) := by decide +kernel
theorem dX1_enter_0 : decode cX1_enter 0 = .ok (.aload_n 0, 1) := by decide +kernel
theorem dX1_enter_1 : decode cX1_enter 1 = .ok (.getfield 21, 3) := by decide +kernel
theorem dX1_enter_4 : decode cX1_enter 4 = .ok (.iconst 4, 1) := by decide +kernel
theorem dX1_enter_5 : decode cX1_enter 5 = .ok (.if_icmp .lt 7, 3) := by decide +kernel
theorem dX1_enter_8 : decode cX1_enter 8 = .ok (.getstatic 28, 3) := by decide +kernel
theorem dX1_enter_11 : decode cX1_enter 11 = .ok (.areturn, 1) := by decide +kernel
theorem dX1_enter_12 : decode cX1_enter 12 = .ok (.aload_n 0, 1) := by decide +kernel
theorem dX1_enter_13 : decode cX1_enter 13 = .ok (.getfield 9, 3) := by decide +kernel
theorem dX1_enter_16 : decode cX1_enter 16 = .ok (.aload_n 0, 1) := by decide +kernel
theorem dX1_enter_17 : decode cX1_enter 17 = .ok (.getfield 21, 3) := by decide +kernel
theorem dX1_enter_20 : decode cX1_enter 20 = .ok (.bipush 100, 2) := by decide +kernel
theorem dX1_enter_22 : decode cX1_enter 22 = .ok (.iastore, 1) := by decide +kernel
theorem dX1_enter_23 : decode cX1_enter 23 = .ok (.aload_n 0, 1) := by decide +kernel
theorem dX1_enter_24 : decode cX1_enter 24 = .ok (.getfield 15, 3) := by decide +kernel
theorem dX1_enter_27 : decode cX1_enter 27 = .ok (.aload_n 0, 1) := by decide +kernel
theorem dX1_enter_28 : decode cX1_enter 28 = .ok (.getfield 21, 3) := by decide +kernel
theorem dX1_enter_31 : decode cX1_enter 31 = .ok (.iconst 0, 1) := by decide +kernel
theorem dX1_enter_32 : decode cX1_enter 32 = .ok (.iastore, 1) := by decide +kernel
theorem dX1_enter_33 : decode cX1_enter 33 = .ok (.aload_n 0, 1) := by decide +kernel
theorem dX1_enter_34 : decode cX1_enter 34 = .ok (.getfield 18, 3) := by decide +kernel
theorem dX1_enter_37 : decode cX1_enter 37 = .ok (.aload_n 0, 1) := by decide +kernel
theorem dX1_enter_38 : decode cX1_enter 38 = .ok (.getfield 21, 3) := by decide +kernel
theorem dX1_enter_41 : decode cX1_enter 41 = .ok (.iconst 0, 1) := by decide +kernel
theorem dX1_enter_42 : decode cX1_enter 42 = .ok (.iastore, 1) := by decide +kernel
theorem dX1_enter_43 : decode cX1_enter 43 = .ok (.aload_n 0, 1) := by decide +kernel
theorem dX1_enter_44 : decode cX1_enter 44 = .ok (.dup, 1) := by decide +kernel
theorem dX1_enter_45 : decode cX1_enter 45 = .ok (.getfield 21, 3) := by decide +kernel
theorem dX1_enter_48 : decode cX1_enter 48 = .ok (.iconst 1, 1) := by decide +kernel
theorem dX1_enter_49 : decode cX1_enter 49 = .ok (.iadd, 1) := by decide +kernel
theorem dX1_enter_50 : decode cX1_enter 50 = .ok (.putfield 21, 3) := by decide +kernel
theorem dX1_enter_53 : decode cX1_enter 53 = .ok (.getstatic 34, 3) := by decide +kernel
theorem dX1_enter_56 : decode cX1_enter 56 = .ok (.areturn, 1) := by decide +kernel
theorem dX1_wager_0 : decode cX1_wager 0 = .ok (.aload_n 0, 1) := by decide +kernel
theorem dX1_wager_1 : decode cX1_wager 1 = .ok (.iload_n 1, 1) := by decide +kernel
theorem dX1_wager_2 : decode cX1_wager 2 = .ok (.invokevirtual 37, 3) := by decide +kernel
theorem dX1_wager_5 : decode cX1_wager 5 = .ok (.ifCond .ne 7, 3) := by decide +kernel
theorem dX1_wager_8 : decode cX1_wager 8 = .ok (.getstatic 41, 3) := by decide +kernel
theorem dX1_wager_11 : decode cX1_wager 11 = .ok (.areturn, 1) := by decide +kernel
theorem dX1_wager_12 : decode cX1_wager 12 = .ok (.iload_n 2, 1) := by decide +kernel
theorem dX1_wager_13 : decode cX1_wager 13 = .ok (.ifCond .lt 20, 3) := by decide +kernel
theorem dX1_wager_16 : decode cX1_wager 16 = .ok (.iload_n 2, 1) := by decide +kernel
theorem dX1_wager_17 : decode cX1_wager 17 = .ok (.bipush 7, 2) := by decide +kernel
theorem dX1_wager_19 : decode cX1_wager 19 = .ok (.if_icmp .gt 14, 3) := by decide +kernel
theorem dX1_wager_22 : decode cX1_wager 22 = .ok (.iload_n 3, 1) := by decide +kernel
theorem dX1_wager_23 : decode cX1_wager 23 = .ok (.iconst 1, 1) := by decide +kernel
theorem dX1_wager_24 : decode cX1_wager 24 = .ok (.if_icmp .lt 9, 3) := by decide +kernel
theorem dX1_wager_27 : decode cX1_wager 27 = .ok (.iload_n 3, 1) := by decide +kernel
theorem dX1_wager_28 : decode cX1_wager 28 = .ok (.bipush 99, 2) := by decide +kernel
theorem dX1_wager_30 : decode cX1_wager 30 = .ok (.if_icmp .le 7, 3) := by decide +kernel
theorem dX1_wager_33 : decode cX1_wager 33 = .ok (.getstatic 44, 3) := by decide +kernel
theorem dX1_wager_36 : decode cX1_wager 36 = .ok (.areturn, 1) := by decide +kernel
theorem dX1_wager_37 : decode cX1_wager 37 = .ok (.aload_n 0, 1) := by decide +kernel
theorem dX1_wager_38 : decode cX1_wager 38 = .ok (.getfield 18, 3) := by decide +kernel
theorem dX1_wager_41 : decode cX1_wager 41 = .ok (.iload_n 1, 1) := by decide +kernel
theorem dX1_wager_42 : decode cX1_wager 42 = .ok (.iaload, 1) := by decide +kernel
theorem dX1_wager_43 : decode cX1_wager 43 = .ok (.ifCond .le 7, 3) := by decide +kernel
theorem dX1_wager_46 : decode cX1_wager 46 = .ok (.getstatic 28, 3) := by decide +kernel
theorem dX1_wager_49 : decode cX1_wager 49 = .ok (.areturn, 1) := by decide +kernel
theorem dX1_wager_50 : decode cX1_wager 50 = .ok (.aload_n 0, 1) := by decide +kernel
theorem dX1_wager_51 : decode cX1_wager 51 = .ok (.getfield 9, 3) := by decide +kernel
theorem dX1_wager_54 : decode cX1_wager 54 = .ok (.iload_n 1, 1) := by decide +kernel
theorem dX1_wager_55 : decode cX1_wager 55 = .ok (.iaload, 1) := by decide +kernel
theorem dX1_wager_56 : decode cX1_wager 56 = .ok (.iload_n 3, 1) := by decide +kernel
theorem dX1_wager_57 : decode cX1_wager 57 = .ok (.if_icmp .ge 7, 3) := by decide +kernel
theorem dX1_wager_60 : decode cX1_wager 60 = .ok (.getstatic 47, 3) := by decide +kernel
theorem dX1_wager_63 : decode cX1_wager 63 = .ok (.areturn, 1) := by decide +kernel
theorem dX1_wager_64 : decode cX1_wager 64 = .ok (.aload_n 0, 1) := by decide +kernel
theorem dX1_wager_65 : decode cX1_wager 65 = .ok (.getfield 9, 3) := by decide +kernel
theorem dX1_wager_68 : decode cX1_wager 68 = .ok (.iload_n 1, 1) := by decide +kernel
theorem dX1_wager_69 : decode cX1_wager 69 = .ok (.dup2, 1) := by decide +kernel
theorem dX1_wager_70 : decode cX1_wager 70 = .ok (.iaload, 1) := by decide +kernel
theorem dX1_wager_71 : decode cX1_wager 71 = .ok (.iload_n 3, 1) := by decide +kernel
theorem dX1_wager_72 : decode cX1_wager 72 = .ok (.isub, 1) := by decide +kernel
theorem dX1_wager_73 : decode cX1_wager 73 = .ok (.iastore, 1) := by decide +kernel
theorem dX1_wager_74 : decode cX1_wager 74 = .ok (.aload_n 0, 1) := by decide +kernel
theorem dX1_wager_75 : decode cX1_wager 75 = .ok (.getfield 15, 3) := by decide +kernel
theorem dX1_wager_78 : decode cX1_wager 78 = .ok (.iload_n 1, 1) := by decide +kernel
theorem dX1_wager_79 : decode cX1_wager 79 = .ok (.iload_n 2, 1) := by decide +kernel
theorem dX1_wager_80 : decode cX1_wager 80 = .ok (.iastore, 1) := by decide +kernel
theorem dX1_wager_81 : decode cX1_wager 81 = .ok (.aload_n 0, 1) := by decide +kernel
theorem dX1_wager_82 : decode cX1_wager 82 = .ok (.getfield 18, 3) := by decide +kernel
theorem dX1_wager_85 : decode cX1_wager 85 = .ok (.iload_n 1, 1) := by decide +kernel
theorem dX1_wager_86 : decode cX1_wager 86 = .ok (.iload_n 3, 1) := by decide +kernel
theorem dX1_wager_87 : decode cX1_wager 87 = .ok (.iastore, 1) := by decide +kernel
theorem dX1_wager_88 : decode cX1_wager 88 = .ok (.getstatic 34, 3) := by decide +kernel
theorem dX1_wager_91 : decode cX1_wager 91 = .ok (.areturn, 1) := by decide +kernel
theorem dX1_allStakes_0 : decode cX1_allStakes 0 = .ok (.iconst 0, 1) := by decide +kernel
theorem dX1_allStakes_1 : decode cX1_allStakes 1 = .ok (.istore_n 1, 1) := by decide +kernel
theorem dX1_allStakes_2 : decode cX1_allStakes 2 = .ok (.iconst 0, 1) := by decide +kernel
theorem dX1_allStakes_3 : decode cX1_allStakes 3 = .ok (.istore_n 2, 1) := by decide +kernel
theorem dX1_allStakes_4 : decode cX1_allStakes 4 = .ok (.iload_n 2, 1) := by decide +kernel
theorem dX1_allStakes_5 : decode cX1_allStakes 5 = .ok (.aload_n 0, 1) := by decide +kernel
theorem dX1_allStakes_6 : decode cX1_allStakes 6 = .ok (.getfield 21, 3) := by decide +kernel
theorem dX1_allStakes_9 : decode cX1_allStakes 9 = .ok (.if_icmp .ge 18, 3) := by decide +kernel
theorem dX1_allStakes_12 : decode cX1_allStakes 12 = .ok (.iload_n 1, 1) := by decide +kernel
theorem dX1_allStakes_13 : decode cX1_allStakes 13 = .ok (.aload_n 0, 1) := by decide +kernel
theorem dX1_allStakes_14 : decode cX1_allStakes 14 = .ok (.getfield 18, 3) := by decide +kernel
theorem dX1_allStakes_17 : decode cX1_allStakes 17 = .ok (.iload_n 2, 1) := by decide +kernel
theorem dX1_allStakes_18 : decode cX1_allStakes 18 = .ok (.iaload, 1) := by decide +kernel
theorem dX1_allStakes_19 : decode cX1_allStakes 19 = .ok (.iadd, 1) := by decide +kernel
theorem dX1_allStakes_20 : decode cX1_allStakes 20 = .ok (.istore_n 1, 1) := by decide +kernel
theorem dX1_allStakes_21 : decode cX1_allStakes 21 = .ok (.iinc 2 1, 3) := by decide +kernel
theorem dX1_allStakes_24 : decode cX1_allStakes 24 = .ok (.goto (-20), 3) := by decide +kernel
theorem dX1_allStakes_27 : decode cX1_allStakes 27 = .ok (.iload_n 1, 1) := by decide +kernel
theorem dX1_allStakes_28 : decode cX1_allStakes 28 = .ok (.ireturn, 1) := by decide +kernel
theorem dX1_allCoins_0 : decode cX1_allCoins 0 = .ok (.aload_n 0, 1) := by decide +kernel
theorem dX1_allCoins_1 : decode cX1_allCoins 1 = .ok (.invokevirtual 50, 3) := by decide +kernel
theorem dX1_allCoins_4 : decode cX1_allCoins 4 = .ok (.aload_n 0, 1) := by decide +kernel
theorem dX1_allCoins_5 : decode cX1_allCoins 5 = .ok (.getfield 25, 3) := by decide +kernel
theorem dX1_allCoins_8 : decode cX1_allCoins 8 = .ok (.iadd, 1) := by decide +kernel
theorem dX1_allCoins_9 : decode cX1_allCoins 9 = .ok (.istore_n 1, 1) := by decide +kernel
theorem dX1_allCoins_10 : decode cX1_allCoins 10 = .ok (.iconst 0, 1) := by decide +kernel
theorem dX1_allCoins_11 : decode cX1_allCoins 11 = .ok (.istore_n 2, 1) := by decide +kernel
theorem dX1_allCoins_12 : decode cX1_allCoins 12 = .ok (.iload_n 2, 1) := by decide +kernel
theorem dX1_allCoins_13 : decode cX1_allCoins 13 = .ok (.aload_n 0, 1) := by decide +kernel
theorem dX1_allCoins_14 : decode cX1_allCoins 14 = .ok (.getfield 21, 3) := by decide +kernel
theorem dX1_allCoins_17 : decode cX1_allCoins 17 = .ok (.if_icmp .ge 18, 3) := by decide +kernel
theorem dX1_allCoins_20 : decode cX1_allCoins 20 = .ok (.iload_n 1, 1) := by decide +kernel
theorem dX1_allCoins_21 : decode cX1_allCoins 21 = .ok (.aload_n 0, 1) := by decide +kernel
theorem dX1_allCoins_22 : decode cX1_allCoins 22 = .ok (.getfield 9, 3) := by decide +kernel
theorem dX1_allCoins_25 : decode cX1_allCoins 25 = .ok (.iload_n 2, 1) := by decide +kernel
theorem dX1_allCoins_26 : decode cX1_allCoins 26 = .ok (.iaload, 1) := by decide +kernel
theorem dX1_allCoins_27 : decode cX1_allCoins 27 = .ok (.iadd, 1) := by decide +kernel
theorem dX1_allCoins_28 : decode cX1_allCoins 28 = .ok (.istore_n 1, 1) := by decide +kernel
theorem dX1_allCoins_29 : decode cX1_allCoins 29 = .ok (.iinc 2 1, 3) := by decide +kernel
theorem dX1_allCoins_32 : decode cX1_allCoins 32 = .ok (.goto (-20), 3) := by decide +kernel
theorem dX1_allCoins_35 : decode cX1_allCoins 35 = .ok (.iload_n 1, 1) := by decide +kernel
theorem dX1_allCoins_36 : decode cX1_allCoins 36 = .ok (.ireturn, 1) := by decide +kernel
theorem dX1_wins_0 : decode cX1_wins 0 = .ok (.aload_n 0, 1) := by decide +kernel
theorem dX1_wins_1 : decode cX1_wins 1 = .ok (.getfield 18, 3) := by decide +kernel
theorem dX1_wins_4 : decode cX1_wins 4 = .ok (.iload_n 1, 1) := by decide +kernel
theorem dX1_wins_5 : decode cX1_wins 5 = .ok (.iaload, 1) := by decide +kernel
theorem dX1_wins_6 : decode cX1_wins 6 = .ok (.ifCond .le 17, 3) := by decide +kernel
theorem dX1_wins_9 : decode cX1_wins 9 = .ok (.aload_n 0, 1) := by decide +kernel
theorem dX1_wins_10 : decode cX1_wins 10 = .ok (.getfield 15, 3) := by decide +kernel
theorem dX1_wins_13 : decode cX1_wins 13 = .ok (.iload_n 1, 1) := by decide +kernel
theorem dX1_wins_14 : decode cX1_wins 14 = .ok (.iaload, 1) := by decide +kernel
theorem dX1_wins_15 : decode cX1_wins 15 = .ok (.iload_n 2, 1) := by decide +kernel
theorem dX1_wins_16 : decode cX1_wins 16 = .ok (.if_icmp .ne 7, 3) := by decide +kernel
theorem dX1_wins_19 : decode cX1_wins 19 = .ok (.iconst 1, 1) := by decide +kernel
theorem dX1_wins_20 : decode cX1_wins 20 = .ok (.goto 4, 3) := by decide +kernel
theorem dX1_wins_23 : decode cX1_wins 23 = .ok (.iconst 0, 1) := by decide +kernel
theorem dX1_wins_24 : decode cX1_wins 24 = .ok (.ireturn, 1) := by decide +kernel
theorem dX1_winners_0 : decode cX1_winners 0 = .ok (.iconst 0, 1) := by decide +kernel
theorem dX1_winners_1 : decode cX1_winners 1 = .ok (.istore_n 2, 1) := by decide +kernel
theorem dX1_winners_2 : decode cX1_winners 2 = .ok (.iconst 0, 1) := by decide +kernel
theorem dX1_winners_3 : decode cX1_winners 3 = .ok (.istore_n 3, 1) := by decide +kernel
theorem dX1_winners_4 : decode cX1_winners 4 = .ok (.iload_n 3, 1) := by decide +kernel
theorem dX1_winners_5 : decode cX1_winners 5 = .ok (.aload_n 0, 1) := by decide +kernel
theorem dX1_winners_6 : decode cX1_winners 6 = .ok (.getfield 21, 3) := by decide +kernel
theorem dX1_winners_9 : decode cX1_winners 9 = .ok (.if_icmp .ge 26, 3) := by decide +kernel
theorem dX1_winners_12 : decode cX1_winners 12 = .ok (.iload_n 2, 1) := by decide +kernel
theorem dX1_winners_13 : decode cX1_winners 13 = .ok (.aload_n 0, 1) := by decide +kernel
theorem dX1_winners_14 : decode cX1_winners 14 = .ok (.iload_n 3, 1) := by decide +kernel
theorem dX1_winners_15 : decode cX1_winners 15 = .ok (.iload_n 1, 1) := by decide +kernel
theorem dX1_winners_16 : decode cX1_winners 16 = .ok (.invokevirtual 54, 3) := by decide +kernel
theorem dX1_winners_19 : decode cX1_winners 19 = .ok (.ifCond .eq 7, 3) := by decide +kernel
theorem dX1_winners_22 : decode cX1_winners 22 = .ok (.iconst 1, 1) := by decide +kernel
theorem dX1_winners_23 : decode cX1_winners 23 = .ok (.goto 4, 3) := by decide +kernel
theorem dX1_winners_26 : decode cX1_winners 26 = .ok (.iconst 0, 1) := by decide +kernel
theorem dX1_winners_27 : decode cX1_winners 27 = .ok (.iadd, 1) := by decide +kernel
theorem dX1_winners_28 : decode cX1_winners 28 = .ok (.istore_n 2, 1) := by decide +kernel
theorem dX1_winners_29 : decode cX1_winners 29 = .ok (.iinc 3 1, 3) := by decide +kernel
theorem dX1_winners_32 : decode cX1_winners 32 = .ok (.goto (-28), 3) := by decide +kernel
theorem dX1_winners_35 : decode cX1_winners 35 = .ok (.iload_n 2, 1) := by decide +kernel
theorem dX1_winners_36 : decode cX1_winners 36 = .ok (.ireturn, 1) := by decide +kernel
theorem dX1_pay_0 : decode cX1_pay 0 = .ok (.aload_n 0, 1) := by decide +kernel
theorem dX1_pay_1 : decode cX1_pay 1 = .ok (.invokevirtual 50, 3) := by decide +kernel
theorem dX1_pay_4 : decode cX1_pay 4 = .ok (.istore_n 2, 1) := by decide +kernel
theorem dX1_pay_5 : decode cX1_pay 5 = .ok (.iload_n 2, 1) := by decide +kernel
theorem dX1_pay_6 : decode cX1_pay 6 = .ok (.ifCond .ne 7, 3) := by decide +kernel
theorem dX1_pay_9 : decode cX1_pay 9 = .ok (.getstatic 28, 3) := by decide +kernel
theorem dX1_pay_12 : decode cX1_pay 12 = .ok (.areturn, 1) := by decide +kernel
theorem dX1_pay_13 : decode cX1_pay 13 = .ok (.iload_n 1, 1) := by decide +kernel
theorem dX1_pay_14 : decode cX1_pay 14 = .ok (.iconst (-1), 1) := by decide +kernel
theorem dX1_pay_15 : decode cX1_pay 15 = .ok (.if_icmp .ne 7, 3) := by decide +kernel
theorem dX1_pay_18 : decode cX1_pay 18 = .ok (.getstatic 60, 3) := by decide +kernel
theorem dX1_pay_21 : decode cX1_pay 21 = .ok (.areturn, 1) := by decide +kernel
theorem dX1_pay_22 : decode cX1_pay 22 = .ok (.aload_n 0, 1) := by decide +kernel
theorem dX1_pay_23 : decode cX1_pay 23 = .ok (.iload_n 1, 1) := by decide +kernel
theorem dX1_pay_24 : decode cX1_pay 24 = .ok (.invokevirtual 63, 3) := by decide +kernel
theorem dX1_pay_27 : decode cX1_pay 27 = .ok (.istore_n 3, 1) := by decide +kernel
theorem dX1_pay_28 : decode cX1_pay 28 = .ok (.iload_n 3, 1) := by decide +kernel
theorem dX1_pay_29 : decode cX1_pay 29 = .ok (.ifCond .ne 7, 3) := by decide +kernel
theorem dX1_pay_32 : decode cX1_pay 32 = .ok (.iconst 0, 1) := by decide +kernel
theorem dX1_pay_33 : decode cX1_pay 33 = .ok (.goto 6, 3) := by decide +kernel
theorem dX1_pay_36 : decode cX1_pay 36 = .ok (.iload_n 2, 1) := by decide +kernel
theorem dX1_pay_37 : decode cX1_pay 37 = .ok (.iload_n 3, 1) := by decide +kernel
theorem dX1_pay_38 : decode cX1_pay 38 = .ok (.idiv, 1) := by decide +kernel
theorem dX1_pay_39 : decode cX1_pay 39 = .ok (.istore 4, 2) := by decide +kernel
theorem dX1_pay_41 : decode cX1_pay 41 = .ok (.iconst 0, 1) := by decide +kernel
theorem dX1_pay_42 : decode cX1_pay 42 = .ok (.istore 5, 2) := by decide +kernel
theorem dX1_pay_44 : decode cX1_pay 44 = .ok (.iload 5, 2) := by decide +kernel
theorem dX1_pay_46 : decode cX1_pay 46 = .ok (.aload_n 0, 1) := by decide +kernel
theorem dX1_pay_47 : decode cX1_pay 47 = .ok (.getfield 21, 3) := by decide +kernel
theorem dX1_pay_50 : decode cX1_pay 50 = .ok (.if_icmp .ge 44, 3) := by decide +kernel
theorem dX1_pay_53 : decode cX1_pay 53 = .ok (.aload_n 0, 1) := by decide +kernel
theorem dX1_pay_54 : decode cX1_pay 54 = .ok (.iload 5, 2) := by decide +kernel
theorem dX1_pay_56 : decode cX1_pay 56 = .ok (.iload_n 1, 1) := by decide +kernel
theorem dX1_pay_57 : decode cX1_pay 57 = .ok (.invokevirtual 54, 3) := by decide +kernel
theorem dX1_pay_60 : decode cX1_pay 60 = .ok (.ifCond .eq 20, 3) := by decide +kernel
theorem dX1_pay_63 : decode cX1_pay 63 = .ok (.aload_n 0, 1) := by decide +kernel
theorem dX1_pay_64 : decode cX1_pay 64 = .ok (.getfield 9, 3) := by decide +kernel
theorem dX1_pay_67 : decode cX1_pay 67 = .ok (.iload 5, 2) := by decide +kernel
theorem dX1_pay_69 : decode cX1_pay 69 = .ok (.dup2, 1) := by decide +kernel
theorem dX1_pay_70 : decode cX1_pay 70 = .ok (.iaload, 1) := by decide +kernel
theorem dX1_pay_71 : decode cX1_pay 71 = .ok (.iload 4, 2) := by decide +kernel
theorem dX1_pay_73 : decode cX1_pay 73 = .ok (.iadd, 1) := by decide +kernel
theorem dX1_pay_74 : decode cX1_pay 74 = .ok (.iastore, 1) := by decide +kernel
theorem dX1_pay_75 : decode cX1_pay 75 = .ok (.iload_n 2, 1) := by decide +kernel
theorem dX1_pay_76 : decode cX1_pay 76 = .ok (.iload 4, 2) := by decide +kernel
theorem dX1_pay_78 : decode cX1_pay 78 = .ok (.isub, 1) := by decide +kernel
theorem dX1_pay_79 : decode cX1_pay 79 = .ok (.istore_n 2, 1) := by decide +kernel
theorem dX1_pay_80 : decode cX1_pay 80 = .ok (.aload_n 0, 1) := by decide +kernel
theorem dX1_pay_81 : decode cX1_pay 81 = .ok (.getfield 18, 3) := by decide +kernel
theorem dX1_pay_84 : decode cX1_pay 84 = .ok (.iload 5, 2) := by decide +kernel
theorem dX1_pay_86 : decode cX1_pay 86 = .ok (.iconst 0, 1) := by decide +kernel
theorem dX1_pay_87 : decode cX1_pay 87 = .ok (.iastore, 1) := by decide +kernel
theorem dX1_pay_88 : decode cX1_pay 88 = .ok (.iinc 5 1, 3) := by decide +kernel
theorem dX1_pay_91 : decode cX1_pay 91 = .ok (.goto (-47), 3) := by decide +kernel
theorem dX1_pay_94 : decode cX1_pay 94 = .ok (.aload_n 0, 1) := by decide +kernel
theorem dX1_pay_95 : decode cX1_pay 95 = .ok (.dup, 1) := by decide +kernel
theorem dX1_pay_96 : decode cX1_pay 96 = .ok (.getfield 25, 3) := by decide +kernel
theorem dX1_pay_99 : decode cX1_pay 99 = .ok (.iload_n 2, 1) := by decide +kernel
theorem dX1_pay_100 : decode cX1_pay 100 = .ok (.iadd, 1) := by decide +kernel
theorem dX1_pay_101 : decode cX1_pay 101 = .ok (.putfield 25, 3) := by decide +kernel
theorem dX1_pay_104 : decode cX1_pay 104 = .ok (.getstatic 34, 3) := by decide +kernel
theorem dX1_pay_107 : decode cX1_pay 107 = .ok (.areturn, 1) := by decide +kernel
theorem dX1_playerOfRank_0 : decode cX1_playerOfRank 0 = .ok (.iconst 0, 1) := by decide +kernel
theorem dX1_playerOfRank_1 : decode cX1_playerOfRank 1 = .ok (.istore_n 2, 1) := by decide +kernel
theorem dX1_playerOfRank_2 : decode cX1_playerOfRank 2 = .ok (.iload_n 2, 1) := by decide +kernel
theorem dX1_playerOfRank_3 : decode cX1_playerOfRank 3 = .ok (.aload_n 0, 1) := by decide +kernel
theorem dX1_playerOfRank_4 : decode cX1_playerOfRank 4 = .ok (.getfield 21, 3) := by decide +kernel
theorem dX1_playerOfRank_7 : decode cX1_playerOfRank 7 = .ok (.if_icmp .ge 20, 3) := by decide +kernel
theorem dX1_playerOfRank_10 : decode cX1_playerOfRank 10 = .ok (.aload_n 0, 1) := by decide +kernel
theorem dX1_playerOfRank_11 : decode cX1_playerOfRank 11 = .ok (.iload_n 2, 1) := by decide +kernel
theorem dX1_playerOfRank_12 : decode cX1_playerOfRank 12 = .ok (.invokevirtual 67, 3) := by decide +kernel
theorem dX1_playerOfRank_15 : decode cX1_playerOfRank 15 = .ok (.iload_n 1, 1) := by decide +kernel
theorem dX1_playerOfRank_16 : decode cX1_playerOfRank 16 = .ok (.if_icmp .ne 5, 3) := by decide +kernel
theorem dX1_playerOfRank_19 : decode cX1_playerOfRank 19 = .ok (.iload_n 2, 1) := by decide +kernel
theorem dX1_playerOfRank_20 : decode cX1_playerOfRank 20 = .ok (.ireturn, 1) := by decide +kernel
theorem dX1_playerOfRank_21 : decode cX1_playerOfRank 21 = .ok (.iinc 2 1, 3) := by decide +kernel
theorem dX1_playerOfRank_24 : decode cX1_playerOfRank 24 = .ok (.goto (-22), 3) := by decide +kernel
theorem dX1_playerOfRank_27 : decode cX1_playerOfRank 27 = .ok (.iconst (-1), 1) := by decide +kernel
theorem dX1_playerOfRank_28 : decode cX1_playerOfRank 28 = .ok (.ireturn, 1) := by decide +kernel
theorem dX1_rankOf_0 : decode cX1_rankOf 0 = .ok (.iconst 0, 1) := by decide +kernel
theorem dX1_rankOf_1 : decode cX1_rankOf 1 = .ok (.istore_n 2, 1) := by decide +kernel
theorem dX1_rankOf_2 : decode cX1_rankOf 2 = .ok (.iconst 0, 1) := by decide +kernel
theorem dX1_rankOf_3 : decode cX1_rankOf 3 = .ok (.istore_n 3, 1) := by decide +kernel
theorem dX1_rankOf_4 : decode cX1_rankOf 4 = .ok (.iload_n 3, 1) := by decide +kernel
theorem dX1_rankOf_5 : decode cX1_rankOf 5 = .ok (.aload_n 0, 1) := by decide +kernel
theorem dX1_rankOf_6 : decode cX1_rankOf 6 = .ok (.getfield 21, 3) := by decide +kernel
theorem dX1_rankOf_9 : decode cX1_rankOf 9 = .ok (.if_icmp .ge 47, 3) := by decide +kernel
theorem dX1_rankOf_12 : decode cX1_rankOf 12 = .ok (.aload_n 0, 1) := by decide +kernel
theorem dX1_rankOf_13 : decode cX1_rankOf 13 = .ok (.getfield 9, 3) := by decide +kernel
theorem dX1_rankOf_16 : decode cX1_rankOf 16 = .ok (.iload_n 3, 1) := by decide +kernel
theorem dX1_rankOf_17 : decode cX1_rankOf 17 = .ok (.iaload, 1) := by decide +kernel
theorem dX1_rankOf_18 : decode cX1_rankOf 18 = .ok (.aload_n 0, 1) := by decide +kernel
theorem dX1_rankOf_19 : decode cX1_rankOf 19 = .ok (.getfield 9, 3) := by decide +kernel
theorem dX1_rankOf_22 : decode cX1_rankOf 22 = .ok (.iload_n 1, 1) := by decide +kernel
theorem dX1_rankOf_23 : decode cX1_rankOf 23 = .ok (.iaload, 1) := by decide +kernel
theorem dX1_rankOf_24 : decode cX1_rankOf 24 = .ok (.if_icmp .gt 23, 3) := by decide +kernel
theorem dX1_rankOf_27 : decode cX1_rankOf 27 = .ok (.aload_n 0, 1) := by decide +kernel
theorem dX1_rankOf_28 : decode cX1_rankOf 28 = .ok (.getfield 9, 3) := by decide +kernel
theorem dX1_rankOf_31 : decode cX1_rankOf 31 = .ok (.iload_n 3, 1) := by decide +kernel
theorem dX1_rankOf_32 : decode cX1_rankOf 32 = .ok (.iaload, 1) := by decide +kernel
theorem dX1_rankOf_33 : decode cX1_rankOf 33 = .ok (.aload_n 0, 1) := by decide +kernel
theorem dX1_rankOf_34 : decode cX1_rankOf 34 = .ok (.getfield 9, 3) := by decide +kernel
theorem dX1_rankOf_37 : decode cX1_rankOf 37 = .ok (.iload_n 1, 1) := by decide +kernel
theorem dX1_rankOf_38 : decode cX1_rankOf 38 = .ok (.iaload, 1) := by decide +kernel
theorem dX1_rankOf_39 : decode cX1_rankOf 39 = .ok (.if_icmp .ne 11, 3) := by decide +kernel
theorem dX1_rankOf_42 : decode cX1_rankOf 42 = .ok (.iload_n 3, 1) := by decide +kernel
theorem dX1_rankOf_43 : decode cX1_rankOf 43 = .ok (.iload_n 1, 1) := by decide +kernel
theorem dX1_rankOf_44 : decode cX1_rankOf 44 = .ok (.if_icmp .ge 6, 3) := by decide +kernel
theorem dX1_rankOf_47 : decode cX1_rankOf 47 = .ok (.iinc 2 1, 3) := by decide +kernel
theorem dX1_rankOf_50 : decode cX1_rankOf 50 = .ok (.iinc 3 1, 3) := by decide +kernel
theorem dX1_rankOf_53 : decode cX1_rankOf 53 = .ok (.goto (-49), 3) := by decide +kernel
theorem dX1_rankOf_56 : decode cX1_rankOf 56 = .ok (.iload_n 2, 1) := by decide +kernel
theorem dX1_rankOf_57 : decode cX1_rankOf 57 = .ok (.ireturn, 1) := by decide +kernel
theorem dX2_init_0 : decode cX2_init 0 = .ok (.aload_n 0, 1) := by decide +kernel
theorem dX2_init_1 : decode cX2_init 1 = .ok (.invokespecial 3, 3) := by decide +kernel
theorem dX2_init_4 : decode cX2_init 4 = .ok (.aload_n 0, 1) := by decide +kernel
theorem dX2_init_5 : decode cX2_init 5 = .ok (.bipush 101, 2) := by decide +kernel
theorem dX2_init_7 : decode cX2_init 7 = .ok (.newarray .int, 2) := by decide +kernel
theorem dX2_init_9 : decode cX2_init 9 = .ok (.putfield 11, 3) := by decide +kernel
theorem dX2_init_12 : decode cX2_init 12 = .ok (.aload_n 0, 1) := by decide +kernel
theorem dX2_init_13 : decode cX2_init 13 = .ok (.bipush 101, 2) := by decide +kernel
theorem dX2_init_15 : decode cX2_init 15 = .ok (.newarray .int, 2) := by decide +kernel
theorem dX2_init_17 : decode cX2_init 17 = .ok (.putfield 15, 3) := by decide +kernel
theorem dX2_init_20 : decode cX2_init 20 = .ok (.aload_n 0, 1) := by decide +kernel
theorem dX2_init_21 : decode cX2_init 21 = .ok (.bipush 101, 2) := by decide +kernel
theorem dX2_init_23 : decode cX2_init 23 = .ok (.newarray .int, 2) := by decide +kernel
theorem dX2_init_25 : decode cX2_init 25 = .ok (.putfield 18, 3) := by decide +kernel
theorem dX2_init_28 : decode cX2_init 28 = .ok (.aload_n 0, 1) := by decide +kernel
theorem dX2_init_29 : decode cX2_init 29 = .ok (.bipush 8, 2) := by decide +kernel
theorem dX2_init_31 : decode cX2_init 31 = .ok (.bipush 14, 2) := by decide +kernel
theorem dX2_init_33 : decode cX2_init 33 = .ok (.multianewarray 21 2, 4) := by decide +kernel
theorem dX2_init_37 : decode cX2_init 37 = .ok (.putfield 23, 3) := by decide +kernel
theorem dX2_init_40 : decode cX2_init 40 = .ok (.return_, 1) := by decide +kernel
theorem dX2_loopsOf_0 : decode cX2_loopsOf 0 = .ok (.aload_n 0, 1) := by decide +kernel
theorem dX2_loopsOf_1 : decode cX2_loopsOf 1 = .ok (.aload_n 1, 1) := by decide +kernel
theorem dX2_loopsOf_2 : decode cX2_loopsOf 2 = .ok (.invokevirtual 26, 3) := by decide +kernel
theorem dX2_loopsOf_5 : decode cX2_loopsOf 5 = .ok (.istore_n 3, 1) := by decide +kernel
theorem dX2_loopsOf_6 : decode cX2_loopsOf 6 = .ok (.iconst 0, 1) := by decide +kernel
theorem dX2_loopsOf_7 : decode cX2_loopsOf 7 = .ok (.istore 4, 2) := by decide +kernel
theorem dX2_loopsOf_9 : decode cX2_loopsOf 9 = .ok (.iload 4, 2) := by decide +kernel
theorem dX2_loopsOf_11 : decode cX2_loopsOf 11 = .ok (.aload_n 1, 1) := by decide +kernel
theorem dX2_loopsOf_12 : decode cX2_loopsOf 12 = .ok (.getfield 30, 3) := by decide +kernel
theorem dX2_loopsOf_15 : decode cX2_loopsOf 15 = .ok (.if_icmp .ge 30, 3) := by decide +kernel
theorem dX2_loopsOf_18 : decode cX2_loopsOf 18 = .ok (.iload_n 3, 1) := by decide +kernel
theorem dX2_loopsOf_19 : decode cX2_loopsOf 19 = .ok (.aload_n 1, 1) := by decide +kernel
theorem dX2_loopsOf_20 : decode cX2_loopsOf 20 = .ok (.iload 4, 2) := by decide +kernel
theorem dX2_loopsOf_22 : decode cX2_loopsOf 22 = .ok (.iload 4, 2) := by decide +kernel
theorem dX2_loopsOf_24 : decode cX2_loopsOf 24 = .ok (.iload_n 2, 1) := by decide +kernel
theorem dX2_loopsOf_25 : decode cX2_loopsOf 25 = .ok (.invokestatic 36, 3) := by decide +kernel
theorem dX2_loopsOf_28 : decode cX2_loopsOf 28 = .ok (.aload_n 0, 1) := by decide +kernel
theorem dX2_loopsOf_29 : decode cX2_loopsOf 29 = .ok (.getfield 23, 3) := by decide +kernel
theorem dX2_loopsOf_32 : decode cX2_loopsOf 32 = .ok (.iconst 0, 1) := by decide +kernel
theorem dX2_loopsOf_33 : decode cX2_loopsOf 33 = .ok (.aaload, 1) := by decide +kernel
theorem dX2_loopsOf_34 : decode cX2_loopsOf 34 = .ok (.invokestatic 40, 3) := by decide +kernel
theorem dX2_loopsOf_37 : decode cX2_loopsOf 37 = .ok (.isub, 1) := by decide +kernel
theorem dX2_loopsOf_38 : decode cX2_loopsOf 38 = .ok (.istore_n 3, 1) := by decide +kernel
theorem dX2_loopsOf_39 : decode cX2_loopsOf 39 = .ok (.iinc 4 1, 3) := by decide +kernel
theorem dX2_loopsOf_42 : decode cX2_loopsOf 42 = .ok (.goto (-33), 3) := by decide +kernel
theorem dX2_loopsOf_45 : decode cX2_loopsOf 45 = .ok (.iload_n 3, 1) := by decide +kernel
theorem dX2_loopsOf_46 : decode cX2_loopsOf 46 = .ok (.ireturn, 1) := by decide +kernel
theorem dX2_separate_0 : decode cX2_separate 0 = .ok (.iconst 0, 1) := by decide +kernel
theorem dX2_separate_1 : decode cX2_separate 1 = .ok (.istore_n 2, 1) := by decide +kernel
theorem dX2_separate_2 : decode cX2_separate 2 = .ok (.iload_n 2, 1) := by decide +kernel
theorem dX2_separate_3 : decode cX2_separate 3 = .ok (.aload_n 1, 1) := by decide +kernel
theorem dX2_separate_4 : decode cX2_separate 4 = .ok (.invokevirtual 44, 3) := by decide +kernel
theorem dX2_separate_7 : decode cX2_separate 7 = .ok (.if_icmp .ge 18, 3) := by decide +kernel
theorem dX2_separate_10 : decode cX2_separate 10 = .ok (.aload_n 0, 1) := by decide +kernel
theorem dX2_separate_11 : decode cX2_separate 11 = .ok (.getfield 23, 3) := by decide +kernel
theorem dX2_separate_14 : decode cX2_separate 14 = .ok (.iconst 0, 1) := by decide +kernel
theorem dX2_separate_15 : decode cX2_separate 15 = .ok (.aaload, 1) := by decide +kernel
theorem dX2_separate_16 : decode cX2_separate 16 = .ok (.iload_n 2, 1) := by decide +kernel
theorem dX2_separate_17 : decode cX2_separate 17 = .ok (.iload_n 2, 1) := by decide +kernel
theorem dX2_separate_18 : decode cX2_separate 18 = .ok (.iastore, 1) := by decide +kernel
theorem dX2_separate_19 : decode cX2_separate 19 = .ok (.iinc 2 1, 3) := by decide +kernel
theorem dX2_separate_22 : decode cX2_separate 22 = .ok (.goto (-20), 3) := by decide +kernel
theorem dX2_separate_25 : decode cX2_separate 25 = .ok (.aload_n 1, 1) := by decide +kernel
theorem dX2_separate_26 : decode cX2_separate 26 = .ok (.getfield 30, 3) := by decide +kernel
theorem dX2_separate_29 : decode cX2_separate 29 = .ok (.ifCond .ne 7, 3) := by decide +kernel
theorem dX2_separate_32 : decode cX2_separate 32 = .ok (.iconst 1, 1) := by decide +kernel
theorem dX2_separate_33 : decode cX2_separate 33 = .ok (.goto 7, 3) := by decide +kernel
theorem dX2_separate_36 : decode cX2_separate 36 = .ok (.aload_n 1, 1) := by decide +kernel
theorem dX2_separate_37 : decode cX2_separate 37 = .ok (.invokevirtual 44, 3) := by decide +kernel
theorem dX2_separate_40 : decode cX2_separate 40 = .ok (.ireturn, 1) := by decide +kernel
theorem dX2_smooth_0 : decode cX2_smooth 0 = .ok (.aload_n 0, 1) := by decide +kernel
theorem dX2_smooth_1 : decode cX2_smooth 1 = .ok (.getfield 48, 3) := by decide +kernel
theorem dX2_smooth_4 : decode cX2_smooth 4 = .ok (.iload_n 1, 1) := by decide +kernel
theorem dX2_smooth_5 : decode cX2_smooth 5 = .ok (.iaload, 1) := by decide +kernel
theorem dX2_smooth_6 : decode cX2_smooth 6 = .ok (.istore 4, 2) := by decide +kernel
theorem dX2_smooth_8 : decode cX2_smooth 8 = .ok (.aload_n 0, 1) := by decide +kernel
theorem dX2_smooth_9 : decode cX2_smooth 9 = .ok (.getfield 51, 3) := by decide +kernel
theorem dX2_smooth_12 : decode cX2_smooth 12 = .ok (.iload_n 1, 1) := by decide +kernel
theorem dX2_smooth_13 : decode cX2_smooth 13 = .ok (.iaload, 1) := by decide +kernel
theorem dX2_smooth_14 : decode cX2_smooth 14 = .ok (.istore 5, 2) := by decide +kernel
theorem dX2_smooth_16 : decode cX2_smooth 16 = .ok (.aload_n 0, 1) := by decide +kernel
theorem dX2_smooth_17 : decode cX2_smooth 17 = .ok (.iload 4, 2) := by decide +kernel
theorem dX2_smooth_19 : decode cX2_smooth 19 = .ok (.invokevirtual 54, 3) := by decide +kernel
theorem dX2_smooth_22 : decode cX2_smooth 22 = .ok (.istore 6, 2) := by decide +kernel
theorem dX2_smooth_24 : decode cX2_smooth 24 = .ok (.aload_n 0, 1) := by decide +kernel
theorem dX2_smooth_25 : decode cX2_smooth 25 = .ok (.iload 5, 2) := by decide +kernel
theorem dX2_smooth_27 : decode cX2_smooth 27 = .ok (.invokevirtual 54, 3) := by decide +kernel
theorem dX2_smooth_30 : decode cX2_smooth 30 = .ok (.istore 7, 2) := by decide +kernel
theorem dX2_smooth_32 : decode cX2_smooth 32 = .ok (.iload_n 2, 1) := by decide +kernel
theorem dX2_smooth_33 : decode cX2_smooth 33 = .ok (.ifCond .eq 21, 3) := by decide +kernel
theorem dX2_smooth_36 : decode cX2_smooth 36 = .ok (.iload 6, 2) := by decide +kernel
theorem dX2_smooth_38 : decode cX2_smooth 38 = .ok (.iload 5, 2) := by decide +kernel
theorem dX2_smooth_40 : decode cX2_smooth 40 = .ok (.aload_n 3, 1) := by decide +kernel
theorem dX2_smooth_41 : decode cX2_smooth 41 = .ok (.invokestatic 58, 3) := by decide +kernel
theorem dX2_smooth_44 : decode cX2_smooth 44 = .ok (.iload 7, 2) := by decide +kernel
theorem dX2_smooth_46 : decode cX2_smooth 46 = .ok (.iload 4, 2) := by decide +kernel
theorem dX2_smooth_48 : decode cX2_smooth 48 = .ok (.aload_n 3, 1) := by decide +kernel
theorem dX2_smooth_49 : decode cX2_smooth 49 = .ok (.invokestatic 58, 3) := by decide +kernel
theorem dX2_smooth_52 : decode cX2_smooth 52 = .ok (.iadd, 1) := by decide +kernel
theorem dX2_smooth_53 : decode cX2_smooth 53 = .ok (.ireturn, 1) := by decide +kernel
theorem dX2_smooth_54 : decode cX2_smooth 54 = .ok (.iload 6, 2) := by decide +kernel
theorem dX2_smooth_56 : decode cX2_smooth 56 = .ok (.iload 7, 2) := by decide +kernel
theorem dX2_smooth_58 : decode cX2_smooth 58 = .ok (.aload_n 3, 1) := by decide +kernel
theorem dX2_smooth_59 : decode cX2_smooth 59 = .ok (.invokestatic 58, 3) := by decide +kernel
theorem dX2_smooth_62 : decode cX2_smooth 62 = .ok (.iload 4, 2) := by decide +kernel
theorem dX2_smooth_64 : decode cX2_smooth 64 = .ok (.iload 5, 2) := by decide +kernel
theorem dX2_smooth_66 : decode cX2_smooth 66 = .ok (.aload_n 3, 1) := by decide +kernel
theorem dX2_smooth_67 : decode cX2_smooth 67 = .ok (.invokestatic 58, 3) := by decide +kernel
theorem dX2_smooth_70 : decode cX2_smooth 70 = .ok (.iadd, 1) := by decide +kernel
theorem dX2_smooth_71 : decode cX2_smooth 71 = .ok (.ireturn, 1) := by decide +kernel
theorem dX2_join_0 : decode cX2_join 0 = .ok (.aload_n 2, 1) := by decide +kernel
theorem dX2_join_1 : decode cX2_join 1 = .ok (.iload_n 0, 1) := by decide +kernel
theorem dX2_join_2 : decode cX2_join 2 = .ok (.iaload, 1) := by decide +kernel
theorem dX2_join_3 : decode cX2_join 3 = .ok (.istore_n 3, 1) := by decide +kernel
theorem dX2_join_4 : decode cX2_join 4 = .ok (.aload_n 2, 1) := by decide +kernel
theorem dX2_join_5 : decode cX2_join 5 = .ok (.iload_n 1, 1) := by decide +kernel
theorem dX2_join_6 : decode cX2_join 6 = .ok (.iaload, 1) := by decide +kernel
theorem dX2_join_7 : decode cX2_join 7 = .ok (.istore 4, 2) := by decide +kernel
theorem dX2_join_9 : decode cX2_join 9 = .ok (.iload_n 3, 1) := by decide +kernel
theorem dX2_join_10 : decode cX2_join 10 = .ok (.iload 4, 2) := by decide +kernel
theorem dX2_join_12 : decode cX2_join 12 = .ok (.if_icmp .ne 5, 3) := by decide +kernel
theorem dX2_join_15 : decode cX2_join 15 = .ok (.iconst 0, 1) := by decide +kernel
theorem dX2_join_16 : decode cX2_join 16 = .ok (.ireturn, 1) := by decide +kernel
theorem dX2_join_17 : decode cX2_join 17 = .ok (.iconst 0, 1) := by decide +kernel
theorem dX2_join_18 : decode cX2_join 18 = .ok (.istore 5, 2) := by decide +kernel
theorem dX2_join_20 : decode cX2_join 20 = .ok (.iload 5, 2) := by decide +kernel
theorem dX2_join_22 : decode cX2_join 22 = .ok (.aload_n 2, 1) := by decide +kernel
theorem dX2_join_23 : decode cX2_join 23 = .ok (.arraylength, 1) := by decide +kernel
theorem dX2_join_24 : decode cX2_join 24 = .ok (.if_icmp .ge 23, 3) := by decide +kernel
theorem dX2_join_27 : decode cX2_join 27 = .ok (.aload_n 2, 1) := by decide +kernel
theorem dX2_join_28 : decode cX2_join 28 = .ok (.iload 5, 2) := by decide +kernel
theorem dX2_join_30 : decode cX2_join 30 = .ok (.iaload, 1) := by decide +kernel
theorem dX2_join_31 : decode cX2_join 31 = .ok (.iload 4, 2) := by decide +kernel
theorem dX2_join_33 : decode cX2_join 33 = .ok (.if_icmp .ne 8, 3) := by decide +kernel
theorem dX2_join_36 : decode cX2_join 36 = .ok (.aload_n 2, 1) := by decide +kernel
theorem dX2_join_37 : decode cX2_join 37 = .ok (.iload 5, 2) := by decide +kernel
theorem dX2_join_39 : decode cX2_join 39 = .ok (.iload_n 3, 1) := by decide +kernel
theorem dX2_join_40 : decode cX2_join 40 = .ok (.iastore, 1) := by decide +kernel
theorem dX2_join_41 : decode cX2_join 41 = .ok (.iinc 5 1, 3) := by decide +kernel
theorem dX2_join_44 : decode cX2_join 44 = .ok (.goto (-24), 3) := by decide +kernel
theorem dX2_join_47 : decode cX2_join 47 = .ok (.iconst 1, 1) := by decide +kernel
theorem dX2_join_48 : decode cX2_join 48 = .ok (.ireturn, 1) := by decide +kernel
theorem dX2_sumStates_0 : decode cX2_sumStates 0 = .ok (.aload_n 0, 1) := by decide +kernel
theorem dX2_sumStates_1 : decode cX2_sumStates 1 = .ok (.getfield 11, 3) := by decide +kernel
theorem dX2_sumStates_4 : decode cX2_sumStates 4 = .ok (.iconst 0, 1) := by decide +kernel
theorem dX2_sumStates_5 : decode cX2_sumStates 5 = .ok (.invokestatic 62, 3) := by decide +kernel
theorem dX2_sumStates_8 : decode cX2_sumStates 8 = .ok (.iconst 0, 1) := by decide +kernel
theorem dX2_sumStates_9 : decode cX2_sumStates 9 = .ok (.istore_n 2, 1) := by decide +kernel
theorem dX2_sumStates_10 : decode cX2_sumStates 10 = .ok (.iload_n 2, 1) := by decide +kernel
theorem dX2_sumStates_11 : decode cX2_sumStates 11 = .ok (.aload_n 1, 1) := by decide +kernel
theorem dX2_sumStates_12 : decode cX2_sumStates 12 = .ok (.invokevirtual 68, 3) := by decide +kernel
theorem dX2_sumStates_15 : decode cX2_sumStates 15 = .ok (.if_icmp .ge 69, 3) := by decide +kernel
theorem dX2_sumStates_18 : decode cX2_sumStates 18 = .ok (.iconst 0, 1) := by decide +kernel
theorem dX2_sumStates_19 : decode cX2_sumStates 19 = .ok (.istore_n 3, 1) := by decide +kernel
theorem dX2_sumStates_20 : decode cX2_sumStates 20 = .ok (.iconst 0, 1) := by decide +kernel
theorem dX2_sumStates_21 : decode cX2_sumStates 21 = .ok (.istore 4, 2) := by decide +kernel
theorem dX2_sumStates_23 : decode cX2_sumStates 23 = .ok (.iload 4, 2) := by decide +kernel
theorem dX2_sumStates_25 : decode cX2_sumStates 25 = .ok (.aload_n 1, 1) := by decide +kernel
theorem dX2_sumStates_26 : decode cX2_sumStates 26 = .ok (.getfield 30, 3) := by decide +kernel
theorem dX2_sumStates_29 : decode cX2_sumStates 29 = .ok (.if_icmp .ge 33, 3) := by decide +kernel
theorem dX2_sumStates_32 : decode cX2_sumStates 32 = .ok (.iload_n 3, 1) := by decide +kernel
theorem dX2_sumStates_33 : decode cX2_sumStates 33 = .ok (.iload 4, 2) := by decide +kernel
theorem dX2_sumStates_35 : decode cX2_sumStates 35 = .ok (.iload_n 2, 1) := by decide +kernel
theorem dX2_sumStates_36 : decode cX2_sumStates 36 = .ok (.invokestatic 36, 3) := by decide +kernel
theorem dX2_sumStates_39 : decode cX2_sumStates 39 = .ok (.aload_n 1, 1) := by decide +kernel
theorem dX2_sumStates_40 : decode cX2_sumStates 40 = .ok (.getfield 71, 3) := by decide +kernel
theorem dX2_sumStates_43 : decode cX2_sumStates 43 = .ok (.iload 4, 2) := by decide +kernel
theorem dX2_sumStates_45 : decode cX2_sumStates 45 = .ok (.baload, 1) := by decide +kernel
theorem dX2_sumStates_46 : decode cX2_sumStates 46 = .ok (.if_icmp .ne 7, 3) := by decide +kernel
theorem dX2_sumStates_49 : decode cX2_sumStates 49 = .ok (.iconst 1, 1) := by decide +kernel
theorem dX2_sumStates_50 : decode cX2_sumStates 50 = .ok (.goto 4, 3) := by decide +kernel
theorem dX2_sumStates_53 : decode cX2_sumStates 53 = .ok (.iconst (-1), 1) := by decide +kernel
theorem dX2_sumStates_54 : decode cX2_sumStates 54 = .ok (.iadd, 1) := by decide +kernel
theorem dX2_sumStates_55 : decode cX2_sumStates 55 = .ok (.istore_n 3, 1) := by decide +kernel
theorem dX2_sumStates_56 : decode cX2_sumStates 56 = .ok (.iinc 4 1, 3) := by decide +kernel
theorem dX2_sumStates_59 : decode cX2_sumStates 59 = .ok (.goto (-36), 3) := by decide +kernel
theorem dX2_sumStates_62 : decode cX2_sumStates 62 = .ok (.aload_n 0, 1) := by decide +kernel
theorem dX2_sumStates_63 : decode cX2_sumStates 63 = .ok (.getfield 11, 3) := by decide +kernel
theorem dX2_sumStates_66 : decode cX2_sumStates 66 = .ok (.iload_n 3, 1) := by decide +kernel
theorem dX2_sumStates_67 : decode cX2_sumStates 67 = .ok (.aload_n 0, 1) := by decide +kernel
theorem dX2_sumStates_68 : decode cX2_sumStates 68 = .ok (.aload_n 1, 1) := by decide +kernel
theorem dX2_sumStates_69 : decode cX2_sumStates 69 = .ok (.iload_n 2, 1) := by decide +kernel
theorem dX2_sumStates_70 : decode cX2_sumStates 70 = .ok (.invokevirtual 75, 3) := by decide +kernel
theorem dX2_sumStates_73 : decode cX2_sumStates 73 = .ok (.iconst 1, 1) := by decide +kernel
theorem dX2_sumStates_74 : decode cX2_sumStates 74 = .ok (.isub, 1) := by decide +kernel
theorem dX2_sumStates_75 : decode cX2_sumStates 75 = .ok (.invokestatic 79, 3) := by decide +kernel
theorem dX2_sumStates_78 : decode cX2_sumStates 78 = .ok (.iinc 2 1, 3) := by decide +kernel
theorem dX2_sumStates_81 : decode cX2_sumStates 81 = .ok (.goto (-71), 3) := by decide +kernel
theorem dX2_sumStates_84 : decode cX2_sumStates 84 = .ok (.return_, 1) := by decide +kernel
theorem dX2_resolveAll_0 : decode cX2_resolveAll 0 = .ok (.aload_n 0, 1) := by decide +kernel
theorem dX2_resolveAll_1 : decode cX2_resolveAll 1 = .ok (.getfield 15, 3) := by decide +kernel
theorem dX2_resolveAll_4 : decode cX2_resolveAll 4 = .ok (.iconst 0, 1) := by decide +kernel
theorem dX2_resolveAll_5 : decode cX2_resolveAll 5 = .ok (.invokestatic 62, 3) := by decide +kernel
theorem dX2_resolveAll_8 : decode cX2_resolveAll 8 = .ok (.aload_n 0, 1) := by decide +kernel
theorem dX2_resolveAll_9 : decode cX2_resolveAll 9 = .ok (.aload_n 1, 1) := by decide +kernel
theorem dX2_resolveAll_10 : decode cX2_resolveAll 10 = .ok (.iconst 0, 1) := by decide +kernel
theorem dX2_resolveAll_11 : decode cX2_resolveAll 11 = .ok (.iconst 0, 1) := by decide +kernel
theorem dX2_resolveAll_12 : decode cX2_resolveAll 12 = .ok (.aload_n 0, 1) := by decide +kernel
theorem dX2_resolveAll_13 : decode cX2_resolveAll 13 = .ok (.aload_n 1, 1) := by decide +kernel
theorem dX2_resolveAll_14 : decode cX2_resolveAll 14 = .ok (.invokevirtual 26, 3) := by decide +kernel
theorem dX2_resolveAll_17 : decode cX2_resolveAll 17 = .ok (.invokestatic 83, 3) := by decide +kernel
theorem dX2_resolveAll_20 : decode cX2_resolveAll 20 = .ok (.return_, 1) := by decide +kernel
theorem dX2_resolve_0 : decode cX2_resolve 0 = .ok (.iload_n 2, 1) := by decide +kernel
theorem dX2_resolve_1 : decode cX2_resolve 1 = .ok (.aload_n 1, 1) := by decide +kernel
theorem dX2_resolve_2 : decode cX2_resolve 2 = .ok (.getfield 30, 3) := by decide +kernel
theorem dX2_resolve_5 : decode cX2_resolve 5 = .ok (.if_icmp .ge 9, 3) := by decide +kernel
theorem dX2_resolve_8 : decode cX2_resolve 8 = .ok (.iload_n 2, 1) := by decide +kernel
theorem dX2_resolve_9 : decode cX2_resolve 9 = .ok (.bipush 7, 2) := by decide +kernel
theorem dX2_resolve_11 : decode cX2_resolve 11 = .ok (.if_icmp .lt 16, 3) := by decide +kernel
theorem dX2_resolve_14 : decode cX2_resolve 14 = .ok (.aload_n 0, 1) := by decide +kernel
theorem dX2_resolve_15 : decode cX2_resolve 15 = .ok (.getfield 15, 3) := by decide +kernel
theorem dX2_resolve_18 : decode cX2_resolve 18 = .ok (.iload_n 3, 1) := by decide +kernel
theorem dX2_resolve_19 : decode cX2_resolve 19 = .ok (.iload 4, 2) := by decide +kernel
theorem dX2_resolve_21 : decode cX2_resolve 21 = .ok (.iconst 1, 1) := by decide +kernel
theorem dX2_resolve_22 : decode cX2_resolve 22 = .ok (.isub, 1) := by decide +kernel
theorem dX2_resolve_23 : decode cX2_resolve 23 = .ok (.invokestatic 79, 3) := by decide +kernel
theorem dX2_resolve_26 : decode cX2_resolve 26 = .ok (.return_, 1) := by decide +kernel
theorem dX2_resolve_27 : decode cX2_resolve 27 = .ok (.aload_n 0, 1) := by decide +kernel
theorem dX2_resolve_28 : decode cX2_resolve 28 = .ok (.getfield 23, 3) := by decide +kernel
theorem dX2_resolve_31 : decode cX2_resolve 31 = .ok (.iload_n 2, 1) := by decide +kernel
theorem dX2_resolve_32 : decode cX2_resolve 32 = .ok (.aaload, 1) := by decide +kernel
theorem dX2_resolve_33 : decode cX2_resolve 33 = .ok (.astore 5, 2) := by decide +kernel
theorem dX2_resolve_35 : decode cX2_resolve 35 = .ok (.aload_n 0, 1) := by decide +kernel
theorem dX2_resolve_36 : decode cX2_resolve 36 = .ok (.getfield 23, 3) := by decide +kernel
theorem dX2_resolve_39 : decode cX2_resolve 39 = .ok (.iload_n 2, 1) := by decide +kernel
theorem dX2_resolve_40 : decode cX2_resolve 40 = .ok (.iconst 1, 1) := by decide +kernel
theorem dX2_resolve_41 : decode cX2_resolve 41 = .ok (.iadd, 1) := by decide +kernel
theorem dX2_resolve_42 : decode cX2_resolve 42 = .ok (.aaload, 1) := by decide +kernel
theorem dX2_resolve_43 : decode cX2_resolve 43 = .ok (.astore 6, 2) := by decide +kernel
theorem dX2_resolve_45 : decode cX2_resolve 45 = .ok (.aload_n 1, 1) := by decide +kernel
theorem dX2_resolve_46 : decode cX2_resolve 46 = .ok (.getfield 71, 3) := by decide +kernel
theorem dX2_resolve_49 : decode cX2_resolve 49 = .ok (.iload_n 2, 1) := by decide +kernel
theorem dX2_resolve_50 : decode cX2_resolve 50 = .ok (.baload, 1) := by decide +kernel
theorem dX2_resolve_51 : decode cX2_resolve 51 = .ok (.ifCond .eq 7, 3) := by decide +kernel
theorem dX2_resolve_54 : decode cX2_resolve 54 = .ok (.iconst 1, 1) := by decide +kernel
theorem dX2_resolve_55 : decode cX2_resolve 55 = .ok (.goto 4, 3) := by decide +kernel
theorem dX2_resolve_58 : decode cX2_resolve 58 = .ok (.iconst (-1), 1) := by decide +kernel
theorem dX2_resolve_59 : decode cX2_resolve 59 = .ok (.istore 7, 2) := by decide +kernel
theorem dX2_resolve_61 : decode cX2_resolve 61 = .ok (.aload 5, 2) := by decide +kernel
theorem dX2_resolve_63 : decode cX2_resolve 63 = .ok (.iconst 0, 1) := by decide +kernel
theorem dX2_resolve_64 : decode cX2_resolve 64 = .ok (.aload 6, 2) := by decide +kernel
theorem dX2_resolve_66 : decode cX2_resolve 66 = .ok (.iconst 0, 1) := by decide +kernel
theorem dX2_resolve_67 : decode cX2_resolve 67 = .ok (.bipush 14, 2) := by decide +kernel
theorem dX2_resolve_69 : decode cX2_resolve 69 = .ok (.invokestatic 87, 3) := by decide +kernel
theorem dX2_resolve_72 : decode cX2_resolve 72 = .ok (.iload 4, 2) := by decide +kernel
theorem dX2_resolve_74 : decode cX2_resolve 74 = .ok (.aload_n 1, 1) := by decide +kernel
theorem dX2_resolve_75 : decode cX2_resolve 75 = .ok (.iload_n 2, 1) := by decide +kernel
theorem dX2_resolve_76 : decode cX2_resolve 76 = .ok (.iconst 1, 1) := by decide +kernel
theorem dX2_resolve_77 : decode cX2_resolve 77 = .ok (.aload 6, 2) := by decide +kernel
theorem dX2_resolve_79 : decode cX2_resolve 79 = .ok (.invokestatic 40, 3) := by decide +kernel
theorem dX2_resolve_82 : decode cX2_resolve 82 = .ok (.isub, 1) := by decide +kernel
theorem dX2_resolve_83 : decode cX2_resolve 83 = .ok (.istore 8, 2) := by decide +kernel
theorem dX2_resolve_85 : decode cX2_resolve 85 = .ok (.aload_n 0, 1) := by decide +kernel
theorem dX2_resolve_86 : decode cX2_resolve 86 = .ok (.aload_n 1, 1) := by decide +kernel
theorem dX2_resolve_87 : decode cX2_resolve 87 = .ok (.iload_n 2, 1) := by decide +kernel
theorem dX2_resolve_88 : decode cX2_resolve 88 = .ok (.iconst 1, 1) := by decide +kernel
theorem dX2_resolve_89 : decode cX2_resolve 89 = .ok (.iadd, 1) := by decide +kernel
theorem dX2_resolve_90 : decode cX2_resolve 90 = .ok (.iload_n 3, 1) := by decide +kernel
theorem dX2_resolve_91 : decode cX2_resolve 91 = .ok (.iload 7, 2) := by decide +kernel
theorem dX2_resolve_93 : decode cX2_resolve 93 = .ok (.iadd, 1) := by decide +kernel
theorem dX2_resolve_94 : decode cX2_resolve 94 = .ok (.iload 8, 2) := by decide +kernel
theorem dX2_resolve_96 : decode cX2_resolve 96 = .ok (.invokestatic 83, 3) := by decide +kernel
theorem dX2_resolve_99 : decode cX2_resolve 99 = .ok (.aload 5, 2) := by decide +kernel
theorem dX2_resolve_101 : decode cX2_resolve 101 = .ok (.iconst 0, 1) := by decide +kernel
theorem dX2_resolve_102 : decode cX2_resolve 102 = .ok (.aload 6, 2) := by decide +kernel
theorem dX2_resolve_104 : decode cX2_resolve 104 = .ok (.iconst 0, 1) := by decide +kernel
theorem dX2_resolve_105 : decode cX2_resolve 105 = .ok (.bipush 14, 2) := by decide +kernel
theorem dX2_resolve_107 : decode cX2_resolve 107 = .ok (.invokestatic 87, 3) := by decide +kernel
theorem dX2_resolve_110 : decode cX2_resolve 110 = .ok (.iload 4, 2) := by decide +kernel
theorem dX2_resolve_112 : decode cX2_resolve 112 = .ok (.aload_n 1, 1) := by decide +kernel
theorem dX2_resolve_113 : decode cX2_resolve 113 = .ok (.iload_n 2, 1) := by decide +kernel
theorem dX2_resolve_114 : decode cX2_resolve 114 = .ok (.iconst 0, 1) := by decide +kernel
theorem dX2_resolve_115 : decode cX2_resolve 115 = .ok (.aload 6, 2) := by decide +kernel
theorem dX2_resolve_117 : decode cX2_resolve 117 = .ok (.invokestatic 40, 3) := by decide +kernel
theorem dX2_resolve_120 : decode cX2_resolve 120 = .ok (.isub, 1) := by decide +kernel
theorem dX2_resolve_121 : decode cX2_resolve 121 = .ok (.istore 9, 2) := by decide +kernel
theorem dX2_resolve_123 : decode cX2_resolve 123 = .ok (.aload_n 0, 1) := by decide +kernel
theorem dX2_resolve_124 : decode cX2_resolve 124 = .ok (.aload_n 1, 1) := by decide +kernel
theorem dX2_resolve_125 : decode cX2_resolve 125 = .ok (.iload_n 2, 1) := by decide +kernel
theorem dX2_resolve_126 : decode cX2_resolve 126 = .ok (.iconst 1, 1) := by decide +kernel
theorem dX2_resolve_127 : decode cX2_resolve 127 = .ok (.iadd, 1) := by decide +kernel
theorem dX2_resolve_128 : decode cX2_resolve 128 = .ok (.iload_n 3, 1) := by decide +kernel
theorem dX2_resolve_129 : decode cX2_resolve 129 = .ok (.iload 7, 2) := by decide +kernel
theorem dX2_resolve_131 : decode cX2_resolve 131 = .ok (.isub, 1) := by decide +kernel
theorem dX2_resolve_132 : decode cX2_resolve 132 = .ok (.iload 9, 2) := by decide +kernel
theorem dX2_resolve_134 : decode cX2_resolve 134 = .ok (.invokestatic 83, 3) := by decide +kernel
theorem dX2_resolve_137 : decode cX2_resolve 137 = .ok (.return_, 1) := by decide +kernel
theorem dX2_addFactor_0 : decode cX2_addFactor 0 = .ok (.iload_n 2, 1) := by decide +kernel
theorem dX2_addFactor_1 : decode cX2_addFactor 1 = .ok (.iconst 2, 1) := by decide +kernel
theorem dX2_addFactor_2 : decode cX2_addFactor 2 = .ok (.irem, 1) := by decide +kernel
theorem dX2_addFactor_3 : decode cX2_addFactor 3 = .ok (.ifCond .ne 7, 3) := by decide +kernel
theorem dX2_addFactor_6 : decode cX2_addFactor 6 = .ok (.iconst 1, 1) := by decide +kernel
theorem dX2_addFactor_7 : decode cX2_addFactor 7 = .ok (.goto 4, 3) := by decide +kernel
theorem dX2_addFactor_10 : decode cX2_addFactor 10 = .ok (.iconst (-1), 1) := by decide +kernel
theorem dX2_addFactor_11 : decode cX2_addFactor 11 = .ok (.istore_n 3, 1) := by decide +kernel
theorem dX2_addFactor_12 : decode cX2_addFactor 12 = .ok (.iconst 0, 1) := by decide +kernel
theorem dX2_addFactor_13 : decode cX2_addFactor 13 = .ok (.istore 4, 2) := by decide +kernel
theorem dX2_addFactor_15 : decode cX2_addFactor 15 = .ok (.iload 4, 2) := by decide +kernel
theorem dX2_addFactor_17 : decode cX2_addFactor 17 = .ok (.iload_n 2, 1) := by decide +kernel
theorem dX2_addFactor_18 : decode cX2_addFactor 18 = .ok (.if_icmp .gt 56, 3) := by decide +kernel
theorem dX2_addFactor_21 : decode cX2_addFactor 21 = .ok (.iload_n 1, 1) := by decide +kernel
theorem dX2_addFactor_22 : decode cX2_addFactor 22 = .ok (.iconst 4, 1) := by decide +kernel
theorem dX2_addFactor_23 : decode cX2_addFactor 23 = .ok (.iload 4, 2) := by decide +kernel
theorem dX2_addFactor_25 : decode cX2_addFactor 25 = .ok (.imul, 1) := by decide +kernel
theorem dX2_addFactor_26 : decode cX2_addFactor 26 = .ok (.iadd, 1) := by decide +kernel
theorem dX2_addFactor_27 : decode cX2_addFactor 27 = .ok (.iconst 2, 1) := by decide +kernel
theorem dX2_addFactor_28 : decode cX2_addFactor 28 = .ok (.iload_n 2, 1) := by decide +kernel
theorem dX2_addFactor_29 : decode cX2_addFactor 29 = .ok (.imul, 1) := by decide +kernel
theorem dX2_addFactor_30 : decode cX2_addFactor 30 = .ok (.isub, 1) := by decide +kernel
theorem dX2_addFactor_31 : decode cX2_addFactor 31 = .ok (.bipush 50, 2) := by decide +kernel
theorem dX2_addFactor_33 : decode cX2_addFactor 33 = .ok (.iadd, 1) := by decide +kernel
theorem dX2_addFactor_34 : decode cX2_addFactor 34 = .ok (.istore 5, 2) := by decide +kernel
theorem dX2_addFactor_36 : decode cX2_addFactor 36 = .ok (.iload 5, 2) := by decide +kernel
theorem dX2_addFactor_38 : decode cX2_addFactor 38 = .ok (.ifCond .lt 18, 3) := by decide +kernel
theorem dX2_addFactor_41 : decode cX2_addFactor 41 = .ok (.iload 5, 2) := by decide +kernel
theorem dX2_addFactor_43 : decode cX2_addFactor 43 = .ok (.aload_n 0, 1) := by decide +kernel
theorem dX2_addFactor_44 : decode cX2_addFactor 44 = .ok (.arraylength, 1) := by decide +kernel
theorem dX2_addFactor_45 : decode cX2_addFactor 45 = .ok (.if_icmp .ge 11, 3) := by decide +kernel
theorem dX2_addFactor_48 : decode cX2_addFactor 48 = .ok (.aload_n 0, 1) := by decide +kernel
theorem dX2_addFactor_49 : decode cX2_addFactor 49 = .ok (.iload 5, 2) := by decide +kernel
theorem dX2_addFactor_51 : decode cX2_addFactor 51 = .ok (.dup2, 1) := by decide +kernel
theorem dX2_addFactor_52 : decode cX2_addFactor 52 = .ok (.iaload, 1) := by decide +kernel
theorem dX2_addFactor_53 : decode cX2_addFactor 53 = .ok (.iload_n 3, 1) := by decide +kernel
theorem dX2_addFactor_54 : decode cX2_addFactor 54 = .ok (.iadd, 1) := by decide +kernel
theorem dX2_addFactor_55 : decode cX2_addFactor 55 = .ok (.iastore, 1) := by decide +kernel
theorem dX2_addFactor_56 : decode cX2_addFactor 56 = .ok (.iload_n 3, 1) := by decide +kernel
theorem dX2_addFactor_57 : decode cX2_addFactor 57 = .ok (.iload_n 2, 1) := by decide +kernel
theorem dX2_addFactor_58 : decode cX2_addFactor 58 = .ok (.iload 4, 2) := by decide +kernel
theorem dX2_addFactor_60 : decode cX2_addFactor 60 = .ok (.isub, 1) := by decide +kernel
theorem dX2_addFactor_61 : decode cX2_addFactor 61 = .ok (.imul, 1) := by decide +kernel
theorem dX2_addFactor_62 : decode cX2_addFactor 62 = .ok (.iload 4, 2) := by decide +kernel
theorem dX2_addFactor_64 : decode cX2_addFactor 64 = .ok (.iconst 1, 1) := by decide +kernel
theorem dX2_addFactor_65 : decode cX2_addFactor 65 = .ok (.iadd, 1) := by decide +kernel
theorem dX2_addFactor_66 : decode cX2_addFactor 66 = .ok (.idiv, 1) := by decide +kernel
theorem dX2_addFactor_67 : decode cX2_addFactor 67 = .ok (.istore_n 3, 1) := by decide +kernel
theorem dX2_addFactor_68 : decode cX2_addFactor 68 = .ok (.iinc 4 1, 3) := by decide +kernel
theorem dX2_addFactor_71 : decode cX2_addFactor 71 = .ok (.goto (-56), 3) := by decide +kernel
theorem dX2_addFactor_74 : decode cX2_addFactor 74 = .ok (.return_, 1) := by decide +kernel
theorem dX2_normalize_0 : decode cX2_normalize 0 = .ok (.aload_n 0, 1) := by decide +kernel
theorem dX2_normalize_1 : decode cX2_normalize 1 = .ok (.aload_n 1, 1) := by decide +kernel
theorem dX2_normalize_2 : decode cX2_normalize 2 = .ok (.invokevirtual 93, 3) := by decide +kernel
theorem dX2_normalize_5 : decode cX2_normalize 5 = .ok (.aload_n 1, 1) := by decide +kernel
theorem dX2_normalize_6 : decode cX2_normalize 6 = .ok (.invokevirtual 97, 3) := by decide +kernel
theorem dX2_normalize_9 : decode cX2_normalize 9 = .ok (.istore_n 2, 1) := by decide +kernel
theorem dX2_normalize_10 : decode cX2_normalize 10 = .ok (.iload_n 2, 1) := by decide +kernel
theorem dX2_normalize_11 : decode cX2_normalize 11 = .ok (.iconst 2, 1) := by decide +kernel
theorem dX2_normalize_12 : decode cX2_normalize 12 = .ok (.irem, 1) := by decide +kernel
theorem dX2_normalize_13 : decode cX2_normalize 13 = .ok (.ifCond .ne 7, 3) := by decide +kernel
theorem dX2_normalize_16 : decode cX2_normalize 16 = .ok (.iconst 1, 1) := by decide +kernel
theorem dX2_normalize_17 : decode cX2_normalize 17 = .ok (.goto 4, 3) := by decide +kernel
theorem dX2_normalize_20 : decode cX2_normalize 20 = .ok (.iconst (-1), 1) := by decide +kernel
theorem dX2_normalize_21 : decode cX2_normalize 21 = .ok (.istore_n 3, 1) := by decide +kernel
theorem dX2_normalize_22 : decode cX2_normalize 22 = .ok (.iconst 0, 1) := by decide +kernel
theorem dX2_normalize_23 : decode cX2_normalize 23 = .ok (.istore 4, 2) := by decide +kernel
theorem dX2_normalize_25 : decode cX2_normalize 25 = .ok (.iload 4, 2) := by decide +kernel
theorem dX2_normalize_27 : decode cX2_normalize 27 = .ok (.bipush 101, 2) := by decide +kernel
theorem dX2_normalize_29 : decode cX2_normalize 29 = .ok (.if_icmp .ge 38, 3) := by decide +kernel
theorem dX2_normalize_32 : decode cX2_normalize 32 = .ok (.iload 4, 2) := by decide +kernel
theorem dX2_normalize_34 : decode cX2_normalize 34 = .ok (.bipush 50, 2) := by decide +kernel
theorem dX2_normalize_36 : decode cX2_normalize 36 = .ok (.isub, 1) := by decide +kernel
theorem dX2_normalize_37 : decode cX2_normalize 37 = .ok (.istore 5, 2) := by decide +kernel
theorem dX2_normalize_39 : decode cX2_normalize 39 = .ok (.aload_n 0, 1) := by decide +kernel
theorem dX2_normalize_40 : decode cX2_normalize 40 = .ok (.getfield 18, 3) := by decide +kernel
theorem dX2_normalize_43 : decode cX2_normalize 43 = .ok (.iload 4, 2) := by decide +kernel
theorem dX2_normalize_45 : decode cX2_normalize 45 = .ok (.iload_n 3, 1) := by decide +kernel
theorem dX2_normalize_46 : decode cX2_normalize 46 = .ok (.aload_n 0, 1) := by decide +kernel
theorem dX2_normalize_47 : decode cX2_normalize 47 = .ok (.getfield 11, 3) := by decide +kernel
theorem dX2_normalize_50 : decode cX2_normalize 50 = .ok (.iload 5, 2) := by decide +kernel
theorem dX2_normalize_52 : decode cX2_normalize 52 = .ok (.iconst 3, 1) := by decide +kernel
theorem dX2_normalize_53 : decode cX2_normalize 53 = .ok (.iload_n 2, 1) := by decide +kernel
theorem dX2_normalize_54 : decode cX2_normalize 54 = .ok (.imul, 1) := by decide +kernel
theorem dX2_normalize_55 : decode cX2_normalize 55 = .ok (.iadd, 1) := by decide +kernel
theorem dX2_normalize_56 : decode cX2_normalize 56 = .ok (.invokestatic 100, 3) := by decide +kernel
theorem dX2_normalize_59 : decode cX2_normalize 59 = .ok (.imul, 1) := by decide +kernel
theorem dX2_normalize_60 : decode cX2_normalize 60 = .ok (.iastore, 1) := by decide +kernel
theorem dX2_normalize_61 : decode cX2_normalize 61 = .ok (.iinc 4 1, 3) := by decide +kernel
theorem dX2_normalize_64 : decode cX2_normalize 64 = .ok (.goto (-39), 3) := by decide +kernel
theorem dX2_normalize_67 : decode cX2_normalize 67 = .ok (.return_, 1) := by decide +kernel
theorem dX2_waysAgree_0 : decode cX2_waysAgree 0 = .ok (.iconst 0, 1) := by decide +kernel
theorem dX2_waysAgree_1 : decode cX2_waysAgree 1 = .ok (.istore_n 1, 1) := by decide +kernel
theorem dX2_waysAgree_2 : decode cX2_waysAgree 2 = .ok (.iload_n 1, 1) := by decide +kernel
theorem dX2_waysAgree_3 : decode cX2_waysAgree 3 = .ok (.bipush 101, 2) := by decide +kernel
theorem dX2_waysAgree_5 : decode cX2_waysAgree 5 = .ok (.if_icmp .ge 26, 3) := by decide +kernel
theorem dX2_waysAgree_8 : decode cX2_waysAgree 8 = .ok (.aload_n 0, 1) := by decide +kernel
theorem dX2_waysAgree_9 : decode cX2_waysAgree 9 = .ok (.getfield 11, 3) := by decide +kernel
theorem dX2_waysAgree_12 : decode cX2_waysAgree 12 = .ok (.iload_n 1, 1) := by decide +kernel
theorem dX2_waysAgree_13 : decode cX2_waysAgree 13 = .ok (.iaload, 1) := by decide +kernel
theorem dX2_waysAgree_14 : decode cX2_waysAgree 14 = .ok (.aload_n 0, 1) := by decide +kernel
theorem dX2_waysAgree_15 : decode cX2_waysAgree 15 = .ok (.getfield 15, 3) := by decide +kernel
theorem dX2_waysAgree_18 : decode cX2_waysAgree 18 = .ok (.iload_n 1, 1) := by decide +kernel
theorem dX2_waysAgree_19 : decode cX2_waysAgree 19 = .ok (.iaload, 1) := by decide +kernel
theorem dX2_waysAgree_20 : decode cX2_waysAgree 20 = .ok (.if_icmp .eq 5, 3) := by decide +kernel
theorem dX2_waysAgree_23 : decode cX2_waysAgree 23 = .ok (.iconst 0, 1) := by decide +kernel
theorem dX2_waysAgree_24 : decode cX2_waysAgree 24 = .ok (.ireturn, 1) := by decide +kernel
theorem dX2_waysAgree_25 : decode cX2_waysAgree 25 = .ok (.iinc 1 1, 3) := by decide +kernel
theorem dX2_waysAgree_28 : decode cX2_waysAgree 28 = .ok (.goto (-26), 3) := by decide +kernel
theorem dX2_waysAgree_31 : decode cX2_waysAgree 31 = .ok (.iconst 1, 1) := by decide +kernel
theorem dX2_waysAgree_32 : decode cX2_waysAgree 32 = .ok (.ireturn, 1) := by decide +kernel
theorem dX3_init_0 : decode cX3_init 0 = .ok (.aload_n 0, 1) := by decide +kernel
theorem dX3_init_1 : decode cX3_init 1 = .ok (.invokespecial 3, 3) := by decide +kernel
theorem dX3_init_4 : decode cX3_init 4 = .ok (.aload_n 0, 1) := by decide +kernel
theorem dX3_init_5 : decode cX3_init 5 = .ok (.bipush 7, 2) := by decide +kernel
theorem dX3_init_7 : decode cX3_init 7 = .ok (.newarray .int, 2) := by decide +kernel
theorem dX3_init_9 : decode cX3_init 9 = .ok (.putfield 9, 3) := by decide +kernel
theorem dX3_init_12 : decode cX3_init 12 = .ok (.aload_n 0, 1) := by decide +kernel
theorem dX3_init_13 : decode cX3_init 13 = .ok (.bipush 7, 2) := by decide +kernel
theorem dX3_init_15 : decode cX3_init 15 = .ok (.newarray .int, 2) := by decide +kernel
theorem dX3_init_17 : decode cX3_init 17 = .ok (.putfield 15, 3) := by decide +kernel
theorem dX3_init_20 : decode cX3_init 20 = .ok (.aload_n 0, 1) := by decide +kernel
theorem dX3_init_21 : decode cX3_init 21 = .ok (.bipush 7, 2) := by decide +kernel
theorem dX3_init_23 : decode cX3_init 23 = .ok (.newarray .int, 2) := by decide +kernel
theorem dX3_init_25 : decode cX3_init 25 = .ok (.putfield 18, 3) := by decide +kernel
theorem dX3_init_28 : decode cX3_init 28 = .ok (.aload_n 0, 1) := by decide +kernel
theorem dX3_init_29 : decode cX3_init 29 = .ok (.bipush 7, 2) := by decide +kernel
theorem dX3_init_31 : decode cX3_init 31 = .ok (.bipush 7, 2) := by decide +kernel
theorem dX3_init_33 : decode cX3_init 33 = .ok (.multianewarray 21 2, 4) := by decide +kernel
theorem dX3_init_37 : decode cX3_init 37 = .ok (.putfield 23, 3) := by decide +kernel
theorem dX3_init_40 : decode cX3_init 40 = .ok (.aload_n 0, 1) := by decide +kernel
theorem dX3_init_41 : decode cX3_init 41 = .ok (.bipush 7, 2) := by decide +kernel
theorem dX3_init_43 : decode cX3_init 43 = .ok (.newarray .int, 2) := by decide +kernel
theorem dX3_init_45 : decode cX3_init 45 = .ok (.putfield 26, 3) := by decide +kernel
theorem dX3_init_48 : decode cX3_init 48 = .ok (.return_, 1) := by decide +kernel
theorem dX3_readArcs_0 : decode cX3_readArcs 0 = .ok (.aload_n 0, 1) := by decide +kernel
theorem dX3_readArcs_1 : decode cX3_readArcs 1 = .ok (.aload_n 1, 1) := by decide +kernel
theorem dX3_readArcs_2 : decode cX3_readArcs 2 = .ok (.getfield 29, 3) := by decide +kernel
theorem dX3_readArcs_5 : decode cX3_readArcs 5 = .ok (.putfield 35, 3) := by decide +kernel
theorem dX3_readArcs_8 : decode cX3_readArcs 8 = .ok (.iconst 0, 1) := by decide +kernel
theorem dX3_readArcs_9 : decode cX3_readArcs 9 = .ok (.istore_n 2, 1) := by decide +kernel
theorem dX3_readArcs_10 : decode cX3_readArcs 10 = .ok (.iload_n 2, 1) := by decide +kernel
theorem dX3_readArcs_11 : decode cX3_readArcs 11 = .ok (.aload_n 0, 1) := by decide +kernel
theorem dX3_readArcs_12 : decode cX3_readArcs 12 = .ok (.getfield 35, 3) := by decide +kernel
theorem dX3_readArcs_15 : decode cX3_readArcs 15 = .ok (.if_icmp .ge 58, 3) := by decide +kernel
theorem dX3_readArcs_18 : decode cX3_readArcs 18 = .ok (.aload_n 1, 1) := by decide +kernel
theorem dX3_readArcs_19 : decode cX3_readArcs 19 = .ok (.getfield 38, 3) := by decide +kernel
theorem dX3_readArcs_22 : decode cX3_readArcs 22 = .ok (.iload_n 2, 1) := by decide +kernel
theorem dX3_readArcs_23 : decode cX3_readArcs 23 = .ok (.iaload, 1) := by decide +kernel
theorem dX3_readArcs_24 : decode cX3_readArcs 24 = .ok (.istore_n 3, 1) := by decide +kernel
theorem dX3_readArcs_25 : decode cX3_readArcs 25 = .ok (.aload_n 0, 1) := by decide +kernel
theorem dX3_readArcs_26 : decode cX3_readArcs 26 = .ok (.getfield 9, 3) := by decide +kernel
theorem dX3_readArcs_29 : decode cX3_readArcs 29 = .ok (.iload_n 2, 1) := by decide +kernel
theorem dX3_readArcs_30 : decode cX3_readArcs 30 = .ok (.aload_n 1, 1) := by decide +kernel
theorem dX3_readArcs_31 : decode cX3_readArcs 31 = .ok (.aload_n 1, 1) := by decide +kernel
theorem dX3_readArcs_32 : decode cX3_readArcs 32 = .ok (.getfield 41, 3) := by decide +kernel
theorem dX3_readArcs_35 : decode cX3_readArcs 35 = .ok (.iload_n 2, 1) := by decide +kernel
theorem dX3_readArcs_36 : decode cX3_readArcs 36 = .ok (.iaload, 1) := by decide +kernel
theorem dX3_readArcs_37 : decode cX3_readArcs 37 = .ok (.invokevirtual 44, 3) := by decide +kernel
theorem dX3_readArcs_40 : decode cX3_readArcs 40 = .ok (.iastore, 1) := by decide +kernel
theorem dX3_readArcs_41 : decode cX3_readArcs 41 = .ok (.aload_n 0, 1) := by decide +kernel
theorem dX3_readArcs_42 : decode cX3_readArcs 42 = .ok (.getfield 15, 3) := by decide +kernel
theorem dX3_readArcs_45 : decode cX3_readArcs 45 = .ok (.iload_n 2, 1) := by decide +kernel
theorem dX3_readArcs_46 : decode cX3_readArcs 46 = .ok (.aload_n 1, 1) := by decide +kernel
theorem dX3_readArcs_47 : decode cX3_readArcs 47 = .ok (.aload_n 1, 1) := by decide +kernel
theorem dX3_readArcs_48 : decode cX3_readArcs 48 = .ok (.iload_n 3, 1) := by decide +kernel
theorem dX3_readArcs_49 : decode cX3_readArcs 49 = .ok (.invokevirtual 48, 3) := by decide +kernel
theorem dX3_readArcs_52 : decode cX3_readArcs 52 = .ok (.invokevirtual 44, 3) := by decide +kernel
theorem dX3_readArcs_55 : decode cX3_readArcs 55 = .ok (.iastore, 1) := by decide +kernel
theorem dX3_readArcs_56 : decode cX3_readArcs 56 = .ok (.aload_n 0, 1) := by decide +kernel
theorem dX3_readArcs_57 : decode cX3_readArcs 57 = .ok (.getfield 18, 3) := by decide +kernel
theorem dX3_readArcs_60 : decode cX3_readArcs 60 = .ok (.iload_n 2, 1) := by decide +kernel
theorem dX3_readArcs_61 : decode cX3_readArcs 61 = .ok (.aload_n 1, 1) := by decide +kernel
theorem dX3_readArcs_62 : decode cX3_readArcs 62 = .ok (.iload_n 3, 1) := by decide +kernel
theorem dX3_readArcs_63 : decode cX3_readArcs 63 = .ok (.invokevirtual 44, 3) := by decide +kernel
theorem dX3_readArcs_66 : decode cX3_readArcs 66 = .ok (.iastore, 1) := by decide +kernel
theorem dX3_readArcs_67 : decode cX3_readArcs 67 = .ok (.iinc 2 1, 3) := by decide +kernel
theorem dX3_readArcs_70 : decode cX3_readArcs 70 = .ok (.goto (-60), 3) := by decide +kernel
theorem dX3_readArcs_73 : decode cX3_readArcs 73 = .ok (.return_, 1) := by decide +kernel
theorem dX3_countByElimination_0 : decode cX3_countByElimination 0 = .ok (.aload_n 0, 1) := by decide +kernel
theorem dX3_countByElimination_1 : decode cX3_countByElimination 1 = .ok (.aload_n 1, 1) := by decide +kernel
theorem dX3_countByElimination_2 : decode cX3_countByElimination 2 = .ok (.invokevirtual 51, 3) := by decide +kernel
theorem dX3_countByElimination_5 : decode cX3_countByElimination 5 = .ok (.aload_n 0, 1) := by decide +kernel
theorem dX3_countByElimination_6 : decode cX3_countByElimination 6 = .ok (.iload_n 2, 1) := by decide +kernel
theorem dX3_countByElimination_7 : decode cX3_countByElimination 7 = .ok (.invokevirtual 55, 3) := by decide +kernel
theorem dX3_countByElimination_10 : decode cX3_countByElimination 10 = .ok (.aload_n 1, 1) := by decide +kernel
theorem dX3_countByElimination_11 : decode cX3_countByElimination 11 = .ok (.invokevirtual 59, 3) := by decide +kernel
theorem dX3_countByElimination_14 : decode cX3_countByElimination 14 = .ok (.aload_n 0, 1) := by decide +kernel
theorem dX3_countByElimination_15 : decode cX3_countByElimination 15 = .ok (.iload_n 2, 1) := by decide +kernel
theorem dX3_countByElimination_16 : decode cX3_countByElimination 16 = .ok (.invokevirtual 63, 3) := by decide +kernel
theorem dX3_countByElimination_19 : decode cX3_countByElimination 19 = .ok (.isub, 1) := by decide +kernel
theorem dX3_countByElimination_20 : decode cX3_countByElimination 20 = .ok (.istore_n 3, 1) := by decide +kernel
theorem dX3_countByElimination_21 : decode cX3_countByElimination 21 = .ok (.iconst 1, 1) := by decide +kernel
theorem dX3_countByElimination_22 : decode cX3_countByElimination 22 = .ok (.istore 4, 2) := by decide +kernel
theorem dX3_countByElimination_24 : decode cX3_countByElimination 24 = .ok (.iconst 0, 1) := by decide +kernel
theorem dX3_countByElimination_25 : decode cX3_countByElimination 25 = .ok (.istore 5, 2) := by decide +kernel
theorem dX3_countByElimination_27 : decode cX3_countByElimination 27 = .ok (.iload 5, 2) := by decide +kernel
theorem dX3_countByElimination_29 : decode cX3_countByElimination 29 = .ok (.iload_n 3, 1) := by decide +kernel
theorem dX3_countByElimination_30 : decode cX3_countByElimination 30 = .ok (.if_icmp .ge 15, 3) := by decide +kernel
theorem dX3_countByElimination_33 : decode cX3_countByElimination 33 = .ok (.iload 4, 2) := by decide +kernel
theorem dX3_countByElimination_35 : decode cX3_countByElimination 35 = .ok (.iload_n 2, 1) := by decide +kernel
theorem dX3_countByElimination_36 : decode cX3_countByElimination 36 = .ok (.imul, 1) := by decide +kernel
theorem dX3_countByElimination_37 : decode cX3_countByElimination 37 = .ok (.istore 4, 2) := by decide +kernel
theorem dX3_countByElimination_39 : decode cX3_countByElimination 39 = .ok (.iinc 5 1, 3) := by decide +kernel
theorem dX3_countByElimination_42 : decode cX3_countByElimination 42 = .ok (.goto (-15), 3) := by decide +kernel
theorem dX3_countByElimination_45 : decode cX3_countByElimination 45 = .ok (.iload 4, 2) := by decide +kernel
theorem dX3_countByElimination_47 : decode cX3_countByElimination 47 = .ok (.ireturn, 1) := by decide +kernel
theorem dX3_fillRows_0 : decode cX3_fillRows 0 = .ok (.iconst 0, 1) := by decide +kernel
theorem dX3_fillRows_1 : decode cX3_fillRows 1 = .ok (.istore_n 2, 1) := by decide +kernel
theorem dX3_fillRows_2 : decode cX3_fillRows 2 = .ok (.iload_n 2, 1) := by decide +kernel
theorem dX3_fillRows_3 : decode cX3_fillRows 3 = .ok (.aload_n 0, 1) := by decide +kernel
theorem dX3_fillRows_4 : decode cX3_fillRows 4 = .ok (.getfield 35, 3) := by decide +kernel
theorem dX3_fillRows_7 : decode cX3_fillRows 7 = .ok (.if_icmp .ge 110, 3) := by decide +kernel
theorem dX3_fillRows_10 : decode cX3_fillRows 10 = .ok (.aload_n 0, 1) := by decide +kernel
theorem dX3_fillRows_11 : decode cX3_fillRows 11 = .ok (.getfield 23, 3) := by decide +kernel
theorem dX3_fillRows_14 : decode cX3_fillRows 14 = .ok (.iload_n 2, 1) := by decide +kernel
theorem dX3_fillRows_15 : decode cX3_fillRows 15 = .ok (.aaload, 1) := by decide +kernel
theorem dX3_fillRows_16 : decode cX3_fillRows 16 = .ok (.iconst 0, 1) := by decide +kernel
theorem dX3_fillRows_17 : decode cX3_fillRows 17 = .ok (.invokestatic 66, 3) := by decide +kernel
theorem dX3_fillRows_20 : decode cX3_fillRows 20 = .ok (.aload_n 0, 1) := by decide +kernel
theorem dX3_fillRows_21 : decode cX3_fillRows 21 = .ok (.getfield 23, 3) := by decide +kernel
theorem dX3_fillRows_24 : decode cX3_fillRows 24 = .ok (.iload_n 2, 1) := by decide +kernel
theorem dX3_fillRows_25 : decode cX3_fillRows 25 = .ok (.aaload, 1) := by decide +kernel
theorem dX3_fillRows_26 : decode cX3_fillRows 26 = .ok (.aload_n 0, 1) := by decide +kernel
theorem dX3_fillRows_27 : decode cX3_fillRows 27 = .ok (.getfield 9, 3) := by decide +kernel
theorem dX3_fillRows_30 : decode cX3_fillRows 30 = .ok (.iload_n 2, 1) := by decide +kernel
theorem dX3_fillRows_31 : decode cX3_fillRows 31 = .ok (.iaload, 1) := by decide +kernel
theorem dX3_fillRows_32 : decode cX3_fillRows 32 = .ok (.dup2, 1) := by decide +kernel
theorem dX3_fillRows_33 : decode cX3_fillRows 33 = .ok (.iaload, 1) := by decide +kernel
theorem dX3_fillRows_34 : decode cX3_fillRows 34 = .ok (.iconst 2, 1) := by decide +kernel
theorem dX3_fillRows_35 : decode cX3_fillRows 35 = .ok (.iadd, 1) := by decide +kernel
theorem dX3_fillRows_36 : decode cX3_fillRows 36 = .ok (.iastore, 1) := by decide +kernel
theorem dX3_fillRows_37 : decode cX3_fillRows 37 = .ok (.aload_n 0, 1) := by decide +kernel
theorem dX3_fillRows_38 : decode cX3_fillRows 38 = .ok (.getfield 23, 3) := by decide +kernel
theorem dX3_fillRows_41 : decode cX3_fillRows 41 = .ok (.iload_n 2, 1) := by decide +kernel
theorem dX3_fillRows_42 : decode cX3_fillRows 42 = .ok (.aaload, 1) := by decide +kernel
theorem dX3_fillRows_43 : decode cX3_fillRows 43 = .ok (.aload_n 0, 1) := by decide +kernel
theorem dX3_fillRows_44 : decode cX3_fillRows 44 = .ok (.getfield 15, 3) := by decide +kernel
theorem dX3_fillRows_47 : decode cX3_fillRows 47 = .ok (.iload_n 2, 1) := by decide +kernel
theorem dX3_fillRows_48 : decode cX3_fillRows 48 = .ok (.iaload, 1) := by decide +kernel
theorem dX3_fillRows_49 : decode cX3_fillRows 49 = .ok (.dup2, 1) := by decide +kernel
theorem dX3_fillRows_50 : decode cX3_fillRows 50 = .ok (.iaload, 1) := by decide +kernel
theorem dX3_fillRows_51 : decode cX3_fillRows 51 = .ok (.iload_n 1, 1) := by decide +kernel
theorem dX3_fillRows_52 : decode cX3_fillRows 52 = .ok (.iconst 1, 1) := by decide +kernel
theorem dX3_fillRows_53 : decode cX3_fillRows 53 = .ok (.isub, 1) := by decide +kernel
theorem dX3_fillRows_54 : decode cX3_fillRows 54 = .ok (.iadd, 1) := by decide +kernel
theorem dX3_fillRows_55 : decode cX3_fillRows 55 = .ok (.iastore, 1) := by decide +kernel
theorem dX3_fillRows_56 : decode cX3_fillRows 56 = .ok (.aload_n 0, 1) := by decide +kernel
theorem dX3_fillRows_57 : decode cX3_fillRows 57 = .ok (.getfield 23, 3) := by decide +kernel
theorem dX3_fillRows_60 : decode cX3_fillRows 60 = .ok (.iload_n 2, 1) := by decide +kernel
theorem dX3_fillRows_61 : decode cX3_fillRows 61 = .ok (.aaload, 1) := by decide +kernel
theorem dX3_fillRows_62 : decode cX3_fillRows 62 = .ok (.aload_n 0, 1) := by decide +kernel
theorem dX3_fillRows_63 : decode cX3_fillRows 63 = .ok (.getfield 18, 3) := by decide +kernel
theorem dX3_fillRows_66 : decode cX3_fillRows 66 = .ok (.iload_n 2, 1) := by decide +kernel
theorem dX3_fillRows_67 : decode cX3_fillRows 67 = .ok (.iaload, 1) := by decide +kernel
theorem dX3_fillRows_68 : decode cX3_fillRows 68 = .ok (.dup2, 1) := by decide +kernel
theorem dX3_fillRows_69 : decode cX3_fillRows 69 = .ok (.iaload, 1) := by decide +kernel
theorem dX3_fillRows_70 : decode cX3_fillRows 70 = .ok (.iload_n 1, 1) := by decide +kernel
theorem dX3_fillRows_71 : decode cX3_fillRows 71 = .ok (.iconst 1, 1) := by decide +kernel
theorem dX3_fillRows_72 : decode cX3_fillRows 72 = .ok (.isub, 1) := by decide +kernel
theorem dX3_fillRows_73 : decode cX3_fillRows 73 = .ok (.iadd, 1) := by decide +kernel
theorem dX3_fillRows_74 : decode cX3_fillRows 74 = .ok (.iastore, 1) := by decide +kernel
theorem dX3_fillRows_75 : decode cX3_fillRows 75 = .ok (.iconst 0, 1) := by decide +kernel
theorem dX3_fillRows_76 : decode cX3_fillRows 76 = .ok (.istore_n 3, 1) := by decide +kernel
theorem dX3_fillRows_77 : decode cX3_fillRows 77 = .ok (.iload_n 3, 1) := by decide +kernel
theorem dX3_fillRows_78 : decode cX3_fillRows 78 = .ok (.aload_n 0, 1) := by decide +kernel
theorem dX3_fillRows_79 : decode cX3_fillRows 79 = .ok (.getfield 35, 3) := by decide +kernel
theorem dX3_fillRows_82 : decode cX3_fillRows 82 = .ok (.if_icmp .ge 29, 3) := by decide +kernel
theorem dX3_fillRows_85 : decode cX3_fillRows 85 = .ok (.aload_n 0, 1) := by decide +kernel
theorem dX3_fillRows_86 : decode cX3_fillRows 86 = .ok (.getfield 23, 3) := by decide +kernel
theorem dX3_fillRows_89 : decode cX3_fillRows 89 = .ok (.iload_n 2, 1) := by decide +kernel
theorem dX3_fillRows_90 : decode cX3_fillRows 90 = .ok (.aaload, 1) := by decide +kernel
theorem dX3_fillRows_91 : decode cX3_fillRows 91 = .ok (.iload_n 3, 1) := by decide +kernel
theorem dX3_fillRows_92 : decode cX3_fillRows 92 = .ok (.aload_n 0, 1) := by decide +kernel
theorem dX3_fillRows_93 : decode cX3_fillRows 93 = .ok (.getfield 23, 3) := by decide +kernel
theorem dX3_fillRows_96 : decode cX3_fillRows 96 = .ok (.iload_n 2, 1) := by decide +kernel
theorem dX3_fillRows_97 : decode cX3_fillRows 97 = .ok (.aaload, 1) := by decide +kernel
theorem dX3_fillRows_98 : decode cX3_fillRows 98 = .ok (.iload_n 3, 1) := by decide +kernel
theorem dX3_fillRows_99 : decode cX3_fillRows 99 = .ok (.iaload, 1) := by decide +kernel
theorem dX3_fillRows_100 : decode cX3_fillRows 100 = .ok (.iload_n 1, 1) := by decide +kernel
theorem dX3_fillRows_101 : decode cX3_fillRows 101 = .ok (.invokestatic 72, 3) := by decide +kernel
theorem dX3_fillRows_104 : decode cX3_fillRows 104 = .ok (.iastore, 1) := by decide +kernel
theorem dX3_fillRows_105 : decode cX3_fillRows 105 = .ok (.iinc 3 1, 3) := by decide +kernel
theorem dX3_fillRows_108 : decode cX3_fillRows 108 = .ok (.goto (-31), 3) := by decide +kernel
theorem dX3_fillRows_111 : decode cX3_fillRows 111 = .ok (.iinc 2 1, 3) := by decide +kernel
theorem dX3_fillRows_114 : decode cX3_fillRows 114 = .ok (.goto (-112), 3) := by decide +kernel
theorem dX3_fillRows_117 : decode cX3_fillRows 117 = .ok (.return_, 1) := by decide +kernel
theorem dX3_eliminate_0 : decode cX3_eliminate 0 = .ok (.iconst 0, 1) := by decide +kernel
theorem dX3_eliminate_1 : decode cX3_eliminate 1 = .ok (.istore_n 2, 1) := by decide +kernel
theorem dX3_eliminate_2 : decode cX3_eliminate 2 = .ok (.iconst 0, 1) := by decide +kernel
theorem dX3_eliminate_3 : decode cX3_eliminate 3 = .ok (.istore_n 3, 1) := by decide +kernel
theorem dX3_eliminate_4 : decode cX3_eliminate 4 = .ok (.iload_n 3, 1) := by decide +kernel
theorem dX3_eliminate_5 : decode cX3_eliminate 5 = .ok (.aload_n 0, 1) := by decide +kernel
theorem dX3_eliminate_6 : decode cX3_eliminate 6 = .ok (.getfield 35, 3) := by decide +kernel
theorem dX3_eliminate_9 : decode cX3_eliminate 9 = .ok (.if_icmp .ge 65, 3) := by decide +kernel
theorem dX3_eliminate_12 : decode cX3_eliminate 12 = .ok (.aload_n 0, 1) := by decide +kernel
theorem dX3_eliminate_13 : decode cX3_eliminate 13 = .ok (.iload_n 2, 1) := by decide +kernel
theorem dX3_eliminate_14 : decode cX3_eliminate 14 = .ok (.iload_n 3, 1) := by decide +kernel
theorem dX3_eliminate_15 : decode cX3_eliminate 15 = .ok (.invokevirtual 78, 3) := by decide +kernel
theorem dX3_eliminate_18 : decode cX3_eliminate 18 = .ok (.istore 4, 2) := by decide +kernel
theorem dX3_eliminate_20 : decode cX3_eliminate 20 = .ok (.iload 4, 2) := by decide +kernel
theorem dX3_eliminate_22 : decode cX3_eliminate 22 = .ok (.aload_n 0, 1) := by decide +kernel
theorem dX3_eliminate_23 : decode cX3_eliminate 23 = .ok (.getfield 35, 3) := by decide +kernel
theorem dX3_eliminate_26 : decode cX3_eliminate 26 = .ok (.if_icmp .ge 42, 3) := by decide +kernel
theorem dX3_eliminate_29 : decode cX3_eliminate 29 = .ok (.aload_n 0, 1) := by decide +kernel
theorem dX3_eliminate_30 : decode cX3_eliminate 30 = .ok (.iload_n 2, 1) := by decide +kernel
theorem dX3_eliminate_31 : decode cX3_eliminate 31 = .ok (.iload 4, 2) := by decide +kernel
theorem dX3_eliminate_33 : decode cX3_eliminate 33 = .ok (.invokevirtual 81, 3) := by decide +kernel
theorem dX3_eliminate_36 : decode cX3_eliminate 36 = .ok (.iload_n 2, 1) := by decide +kernel
theorem dX3_eliminate_37 : decode cX3_eliminate 37 = .ok (.iconst 1, 1) := by decide +kernel
theorem dX3_eliminate_38 : decode cX3_eliminate 38 = .ok (.iadd, 1) := by decide +kernel
theorem dX3_eliminate_39 : decode cX3_eliminate 39 = .ok (.istore 5, 2) := by decide +kernel
theorem dX3_eliminate_41 : decode cX3_eliminate 41 = .ok (.iload 5, 2) := by decide +kernel
theorem dX3_eliminate_43 : decode cX3_eliminate 43 = .ok (.aload_n 0, 1) := by decide +kernel
theorem dX3_eliminate_44 : decode cX3_eliminate 44 = .ok (.getfield 35, 3) := by decide +kernel
theorem dX3_eliminate_47 : decode cX3_eliminate 47 = .ok (.if_icmp .ge 18, 3) := by decide +kernel
theorem dX3_eliminate_50 : decode cX3_eliminate 50 = .ok (.aload_n 0, 1) := by decide +kernel
theorem dX3_eliminate_51 : decode cX3_eliminate 51 = .ok (.iload 5, 2) := by decide +kernel
theorem dX3_eliminate_53 : decode cX3_eliminate 53 = .ok (.iload_n 2, 1) := by decide +kernel
theorem dX3_eliminate_54 : decode cX3_eliminate 54 = .ok (.iload_n 3, 1) := by decide +kernel
theorem dX3_eliminate_55 : decode cX3_eliminate 55 = .ok (.iload_n 1, 1) := by decide +kernel
theorem dX3_eliminate_56 : decode cX3_eliminate 56 = .ok (.invokevirtual 85, 3) := by decide +kernel
theorem dX3_eliminate_59 : decode cX3_eliminate 59 = .ok (.iinc 5 1, 3) := by decide +kernel
theorem dX3_eliminate_62 : decode cX3_eliminate 62 = .ok (.goto (-21), 3) := by decide +kernel
theorem dX3_eliminate_65 : decode cX3_eliminate 65 = .ok (.iinc 2 1, 3) := by decide +kernel
theorem dX3_eliminate_68 : decode cX3_eliminate 68 = .ok (.iinc 3 1, 3) := by decide +kernel
theorem dX3_eliminate_71 : decode cX3_eliminate 71 = .ok (.goto (-67), 3) := by decide +kernel
theorem dX3_eliminate_74 : decode cX3_eliminate 74 = .ok (.iload_n 2, 1) := by decide +kernel
theorem dX3_eliminate_75 : decode cX3_eliminate 75 = .ok (.ireturn, 1) := by decide +kernel
theorem dX3_pivotRow_0 : decode cX3_pivotRow 0 = .ok (.iload_n 1, 1) := by decide +kernel
theorem dX3_pivotRow_1 : decode cX3_pivotRow 1 = .ok (.istore_n 3, 1) := by decide +kernel
theorem dX3_pivotRow_2 : decode cX3_pivotRow 2 = .ok (.iload_n 3, 1) := by decide +kernel
theorem dX3_pivotRow_3 : decode cX3_pivotRow 3 = .ok (.aload_n 0, 1) := by decide +kernel
theorem dX3_pivotRow_4 : decode cX3_pivotRow 4 = .ok (.getfield 35, 3) := by decide +kernel
theorem dX3_pivotRow_7 : decode cX3_pivotRow 7 = .ok (.if_icmp .ge 22, 3) := by decide +kernel
theorem dX3_pivotRow_10 : decode cX3_pivotRow 10 = .ok (.aload_n 0, 1) := by decide +kernel
theorem dX3_pivotRow_11 : decode cX3_pivotRow 11 = .ok (.getfield 23, 3) := by decide +kernel
theorem dX3_pivotRow_14 : decode cX3_pivotRow 14 = .ok (.iload_n 3, 1) := by decide +kernel
theorem dX3_pivotRow_15 : decode cX3_pivotRow 15 = .ok (.aaload, 1) := by decide +kernel
theorem dX3_pivotRow_16 : decode cX3_pivotRow 16 = .ok (.iload_n 2, 1) := by decide +kernel
theorem dX3_pivotRow_17 : decode cX3_pivotRow 17 = .ok (.iaload, 1) := by decide +kernel
theorem dX3_pivotRow_18 : decode cX3_pivotRow 18 = .ok (.ifCond .eq 5, 3) := by decide +kernel
theorem dX3_pivotRow_21 : decode cX3_pivotRow 21 = .ok (.iload_n 3, 1) := by decide +kernel
theorem dX3_pivotRow_22 : decode cX3_pivotRow 22 = .ok (.ireturn, 1) := by decide +kernel
theorem dX3_pivotRow_23 : decode cX3_pivotRow 23 = .ok (.iinc 3 1, 3) := by decide +kernel
theorem dX3_pivotRow_26 : decode cX3_pivotRow 26 = .ok (.goto (-24), 3) := by decide +kernel
theorem dX3_pivotRow_29 : decode cX3_pivotRow 29 = .ok (.aload_n 0, 1) := by decide +kernel
theorem dX3_pivotRow_30 : decode cX3_pivotRow 30 = .ok (.getfield 35, 3) := by decide +kernel
theorem dX3_pivotRow_33 : decode cX3_pivotRow 33 = .ok (.ireturn, 1) := by decide +kernel
theorem dX3_exchangeRows_0 : decode cX3_exchangeRows 0 = .ok (.iconst 0, 1) := by decide +kernel
theorem dX3_exchangeRows_1 : decode cX3_exchangeRows 1 = .ok (.istore_n 3, 1) := by decide +kernel
theorem dX3_exchangeRows_2 : decode cX3_exchangeRows 2 = .ok (.iload_n 3, 1) := by decide +kernel
theorem dX3_exchangeRows_3 : decode cX3_exchangeRows 3 = .ok (.aload_n 0, 1) := by decide +kernel
theorem dX3_exchangeRows_4 : decode cX3_exchangeRows 4 = .ok (.getfield 35, 3) := by decide +kernel
theorem dX3_exchangeRows_7 : decode cX3_exchangeRows 7 = .ok (.if_icmp .ge 45, 3) := by decide +kernel
theorem dX3_exchangeRows_10 : decode cX3_exchangeRows 10 = .ok (.aload_n 0, 1) := by decide +kernel
theorem dX3_exchangeRows_11 : decode cX3_exchangeRows 11 = .ok (.getfield 23, 3) := by decide +kernel
theorem dX3_exchangeRows_14 : decode cX3_exchangeRows 14 = .ok (.iload_n 1, 1) := by decide +kernel
theorem dX3_exchangeRows_15 : decode cX3_exchangeRows 15 = .ok (.aaload, 1) := by decide +kernel
theorem dX3_exchangeRows_16 : decode cX3_exchangeRows 16 = .ok (.iload_n 3, 1) := by decide +kernel
theorem dX3_exchangeRows_17 : decode cX3_exchangeRows 17 = .ok (.iaload, 1) := by decide +kernel
theorem dX3_exchangeRows_18 : decode cX3_exchangeRows 18 = .ok (.istore 4, 2) := by decide +kernel
theorem dX3_exchangeRows_20 : decode cX3_exchangeRows 20 = .ok (.aload_n 0, 1) := by decide +kernel
theorem dX3_exchangeRows_21 : decode cX3_exchangeRows 21 = .ok (.getfield 23, 3) := by decide +kernel
theorem dX3_exchangeRows_24 : decode cX3_exchangeRows 24 = .ok (.iload_n 1, 1) := by decide +kernel
theorem dX3_exchangeRows_25 : decode cX3_exchangeRows 25 = .ok (.aaload, 1) := by decide +kernel
theorem dX3_exchangeRows_26 : decode cX3_exchangeRows 26 = .ok (.iload_n 3, 1) := by decide +kernel
theorem dX3_exchangeRows_27 : decode cX3_exchangeRows 27 = .ok (.aload_n 0, 1) := by decide +kernel
theorem dX3_exchangeRows_28 : decode cX3_exchangeRows 28 = .ok (.getfield 23, 3) := by decide +kernel
theorem dX3_exchangeRows_31 : decode cX3_exchangeRows 31 = .ok (.iload_n 2, 1) := by decide +kernel
theorem dX3_exchangeRows_32 : decode cX3_exchangeRows 32 = .ok (.aaload, 1) := by decide +kernel
theorem dX3_exchangeRows_33 : decode cX3_exchangeRows 33 = .ok (.iload_n 3, 1) := by decide +kernel
theorem dX3_exchangeRows_34 : decode cX3_exchangeRows 34 = .ok (.iaload, 1) := by decide +kernel
theorem dX3_exchangeRows_35 : decode cX3_exchangeRows 35 = .ok (.iastore, 1) := by decide +kernel
theorem dX3_exchangeRows_36 : decode cX3_exchangeRows 36 = .ok (.aload_n 0, 1) := by decide +kernel
theorem dX3_exchangeRows_37 : decode cX3_exchangeRows 37 = .ok (.getfield 23, 3) := by decide +kernel
theorem dX3_exchangeRows_40 : decode cX3_exchangeRows 40 = .ok (.iload_n 2, 1) := by decide +kernel
theorem dX3_exchangeRows_41 : decode cX3_exchangeRows 41 = .ok (.aaload, 1) := by decide +kernel
theorem dX3_exchangeRows_42 : decode cX3_exchangeRows 42 = .ok (.iload_n 3, 1) := by decide +kernel
theorem dX3_exchangeRows_43 : decode cX3_exchangeRows 43 = .ok (.iload 4, 2) := by decide +kernel
theorem dX3_exchangeRows_45 : decode cX3_exchangeRows 45 = .ok (.iastore, 1) := by decide +kernel
theorem dX3_exchangeRows_46 : decode cX3_exchangeRows 46 = .ok (.iinc 3 1, 3) := by decide +kernel
theorem dX3_exchangeRows_49 : decode cX3_exchangeRows 49 = .ok (.goto (-47), 3) := by decide +kernel
theorem dX3_exchangeRows_52 : decode cX3_exchangeRows 52 = .ok (.return_, 1) := by decide +kernel
theorem dX3_cancel_0 : decode cX3_cancel 0 = .ok (.aload_n 0, 1) := by decide +kernel
theorem dX3_cancel_1 : decode cX3_cancel 1 = .ok (.getfield 23, 3) := by decide +kernel
theorem dX3_cancel_4 : decode cX3_cancel 4 = .ok (.iload_n 2, 1) := by decide +kernel
theorem dX3_cancel_5 : decode cX3_cancel 5 = .ok (.aaload, 1) := by decide +kernel
theorem dX3_cancel_6 : decode cX3_cancel 6 = .ok (.iload_n 3, 1) := by decide +kernel
theorem dX3_cancel_7 : decode cX3_cancel 7 = .ok (.iaload, 1) := by decide +kernel
theorem dX3_cancel_8 : decode cX3_cancel 8 = .ok (.istore 5, 2) := by decide +kernel
theorem dX3_cancel_10 : decode cX3_cancel 10 = .ok (.aload_n 0, 1) := by decide +kernel
theorem dX3_cancel_11 : decode cX3_cancel 11 = .ok (.getfield 23, 3) := by decide +kernel
theorem dX3_cancel_14 : decode cX3_cancel 14 = .ok (.iload_n 1, 1) := by decide +kernel
theorem dX3_cancel_15 : decode cX3_cancel 15 = .ok (.aaload, 1) := by decide +kernel
theorem dX3_cancel_16 : decode cX3_cancel 16 = .ok (.iload_n 3, 1) := by decide +kernel
theorem dX3_cancel_17 : decode cX3_cancel 17 = .ok (.iaload, 1) := by decide +kernel
theorem dX3_cancel_18 : decode cX3_cancel 18 = .ok (.istore 6, 2) := by decide +kernel
theorem dX3_cancel_20 : decode cX3_cancel 20 = .ok (.iconst 0, 1) := by decide +kernel
theorem dX3_cancel_21 : decode cX3_cancel 21 = .ok (.istore 7, 2) := by decide +kernel
theorem dX3_cancel_23 : decode cX3_cancel 23 = .ok (.iload 7, 2) := by decide +kernel
theorem dX3_cancel_25 : decode cX3_cancel 25 = .ok (.aload_n 0, 1) := by decide +kernel
theorem dX3_cancel_26 : decode cX3_cancel 26 = .ok (.getfield 35, 3) := by decide +kernel
theorem dX3_cancel_29 : decode cX3_cancel 29 = .ok (.if_icmp .ge 52, 3) := by decide +kernel
theorem dX3_cancel_32 : decode cX3_cancel 32 = .ok (.aload_n 0, 1) := by decide +kernel
theorem dX3_cancel_33 : decode cX3_cancel 33 = .ok (.getfield 23, 3) := by decide +kernel
theorem dX3_cancel_36 : decode cX3_cancel 36 = .ok (.iload_n 1, 1) := by decide +kernel
theorem dX3_cancel_37 : decode cX3_cancel 37 = .ok (.aaload, 1) := by decide +kernel
theorem dX3_cancel_38 : decode cX3_cancel 38 = .ok (.iload 7, 2) := by decide +kernel
theorem dX3_cancel_40 : decode cX3_cancel 40 = .ok (.iaload, 1) := by decide +kernel
theorem dX3_cancel_41 : decode cX3_cancel 41 = .ok (.iload 5, 2) := by decide +kernel
theorem dX3_cancel_43 : decode cX3_cancel 43 = .ok (.imul, 1) := by decide +kernel
theorem dX3_cancel_44 : decode cX3_cancel 44 = .ok (.aload_n 0, 1) := by decide +kernel
theorem dX3_cancel_45 : decode cX3_cancel 45 = .ok (.getfield 23, 3) := by decide +kernel
theorem dX3_cancel_48 : decode cX3_cancel 48 = .ok (.iload_n 2, 1) := by decide +kernel
theorem dX3_cancel_49 : decode cX3_cancel 49 = .ok (.aaload, 1) := by decide +kernel
theorem dX3_cancel_50 : decode cX3_cancel 50 = .ok (.iload 7, 2) := by decide +kernel
theorem dX3_cancel_52 : decode cX3_cancel 52 = .ok (.iaload, 1) := by decide +kernel
theorem dX3_cancel_53 : decode cX3_cancel 53 = .ok (.iload 6, 2) := by decide +kernel
theorem dX3_cancel_55 : decode cX3_cancel 55 = .ok (.imul, 1) := by decide +kernel
theorem dX3_cancel_56 : decode cX3_cancel 56 = .ok (.isub, 1) := by decide +kernel
theorem dX3_cancel_57 : decode cX3_cancel 57 = .ok (.istore 8, 2) := by decide +kernel
theorem dX3_cancel_59 : decode cX3_cancel 59 = .ok (.aload_n 0, 1) := by decide +kernel
theorem dX3_cancel_60 : decode cX3_cancel 60 = .ok (.getfield 23, 3) := by decide +kernel
theorem dX3_cancel_63 : decode cX3_cancel 63 = .ok (.iload_n 1, 1) := by decide +kernel
theorem dX3_cancel_64 : decode cX3_cancel 64 = .ok (.aaload, 1) := by decide +kernel
theorem dX3_cancel_65 : decode cX3_cancel 65 = .ok (.iload 7, 2) := by decide +kernel
theorem dX3_cancel_67 : decode cX3_cancel 67 = .ok (.iload 8, 2) := by decide +kernel
theorem dX3_cancel_69 : decode cX3_cancel 69 = .ok (.iload 4, 2) := by decide +kernel
theorem dX3_cancel_71 : decode cX3_cancel 71 = .ok (.invokestatic 72, 3) := by decide +kernel
theorem dX3_cancel_74 : decode cX3_cancel 74 = .ok (.iastore, 1) := by decide +kernel
theorem dX3_cancel_75 : decode cX3_cancel 75 = .ok (.iinc 7 1, 3) := by decide +kernel
theorem dX3_cancel_78 : decode cX3_cancel 78 = .ok (.goto (-55), 3) := by decide +kernel
theorem dX3_cancel_81 : decode cX3_cancel 81 = .ok (.return_, 1) := by decide +kernel
theorem dX3_countByTrying_0 : decode cX3_countByTrying 0 = .ok (.aload_n 0, 1) := by decide +kernel
theorem dX3_countByTrying_1 : decode cX3_countByTrying 1 = .ok (.aload_n 1, 1) := by decide +kernel
theorem dX3_countByTrying_2 : decode cX3_countByTrying 2 = .ok (.invokevirtual 51, 3) := by decide +kernel
theorem dX3_countByTrying_5 : decode cX3_countByTrying 5 = .ok (.aload_n 0, 1) := by decide +kernel
theorem dX3_countByTrying_6 : decode cX3_countByTrying 6 = .ok (.getfield 35, 3) := by decide +kernel
theorem dX3_countByTrying_9 : decode cX3_countByTrying 9 = .ok (.ifCond .ne 7, 3) := by decide +kernel
theorem dX3_countByTrying_12 : decode cX3_countByTrying 12 = .ok (.iconst 3, 1) := by decide +kernel
theorem dX3_countByTrying_13 : decode cX3_countByTrying 13 = .ok (.goto 8, 3) := by decide +kernel
theorem dX3_countByTrying_16 : decode cX3_countByTrying 16 = .ok (.aload_n 0, 1) := by decide +kernel
theorem dX3_countByTrying_17 : decode cX3_countByTrying 17 = .ok (.iconst 0, 1) := by decide +kernel
theorem dX3_countByTrying_18 : decode cX3_countByTrying 18 = .ok (.invokestatic 89, 3) := by decide +kernel
theorem dX3_countByTrying_21 : decode cX3_countByTrying 21 = .ok (.ireturn, 1) := by decide +kernel
theorem dX3_tryFrom_0 : decode cX3_tryFrom 0 = .ok (.iload_n 1, 1) := by decide +kernel
theorem dX3_tryFrom_1 : decode cX3_tryFrom 1 = .ok (.aload_n 0, 1) := by decide +kernel
theorem dX3_tryFrom_2 : decode cX3_tryFrom 2 = .ok (.getfield 35, 3) := by decide +kernel
theorem dX3_tryFrom_5 : decode cX3_tryFrom 5 = .ok (.if_icmp .lt 5, 3) := by decide +kernel
theorem dX3_tryFrom_8 : decode cX3_tryFrom 8 = .ok (.iconst 1, 1) := by decide +kernel
theorem dX3_tryFrom_9 : decode cX3_tryFrom 9 = .ok (.ireturn, 1) := by decide +kernel
theorem dX3_tryFrom_10 : decode cX3_tryFrom 10 = .ok (.iconst 0, 1) := by decide +kernel
theorem dX3_tryFrom_11 : decode cX3_tryFrom 11 = .ok (.istore_n 2, 1) := by decide +kernel
theorem dX3_tryFrom_12 : decode cX3_tryFrom 12 = .ok (.iconst 0, 1) := by decide +kernel
theorem dX3_tryFrom_13 : decode cX3_tryFrom 13 = .ok (.istore_n 3, 1) := by decide +kernel
theorem dX3_tryFrom_14 : decode cX3_tryFrom 14 = .ok (.iload_n 3, 1) := by decide +kernel
theorem dX3_tryFrom_15 : decode cX3_tryFrom 15 = .ok (.iconst 3, 1) := by decide +kernel
theorem dX3_tryFrom_16 : decode cX3_tryFrom 16 = .ok (.if_icmp .ge 34, 3) := by decide +kernel
theorem dX3_tryFrom_19 : decode cX3_tryFrom 19 = .ok (.aload_n 0, 1) := by decide +kernel
theorem dX3_tryFrom_20 : decode cX3_tryFrom 20 = .ok (.getfield 26, 3) := by decide +kernel
theorem dX3_tryFrom_23 : decode cX3_tryFrom 23 = .ok (.iload_n 1, 1) := by decide +kernel
theorem dX3_tryFrom_24 : decode cX3_tryFrom 24 = .ok (.iload_n 3, 1) := by decide +kernel
theorem dX3_tryFrom_25 : decode cX3_tryFrom 25 = .ok (.iastore, 1) := by decide +kernel
theorem dX3_tryFrom_26 : decode cX3_tryFrom 26 = .ok (.aload_n 0, 1) := by decide +kernel
theorem dX3_tryFrom_27 : decode cX3_tryFrom 27 = .ok (.iload_n 1, 1) := by decide +kernel
theorem dX3_tryFrom_28 : decode cX3_tryFrom 28 = .ok (.invokevirtual 93, 3) := by decide +kernel
theorem dX3_tryFrom_31 : decode cX3_tryFrom 31 = .ok (.ifCond .eq 13, 3) := by decide +kernel
theorem dX3_tryFrom_34 : decode cX3_tryFrom 34 = .ok (.iload_n 2, 1) := by decide +kernel
theorem dX3_tryFrom_35 : decode cX3_tryFrom 35 = .ok (.aload_n 0, 1) := by decide +kernel
theorem dX3_tryFrom_36 : decode cX3_tryFrom 36 = .ok (.iload_n 1, 1) := by decide +kernel
theorem dX3_tryFrom_37 : decode cX3_tryFrom 37 = .ok (.iconst 1, 1) := by decide +kernel
theorem dX3_tryFrom_38 : decode cX3_tryFrom 38 = .ok (.iadd, 1) := by decide +kernel
theorem dX3_tryFrom_39 : decode cX3_tryFrom 39 = .ok (.invokestatic 89, 3) := by decide +kernel
theorem dX3_tryFrom_42 : decode cX3_tryFrom 42 = .ok (.iadd, 1) := by decide +kernel
theorem dX3_tryFrom_43 : decode cX3_tryFrom 43 = .ok (.istore_n 2, 1) := by decide +kernel
theorem dX3_tryFrom_44 : decode cX3_tryFrom 44 = .ok (.iinc 3 1, 3) := by decide +kernel
theorem dX3_tryFrom_47 : decode cX3_tryFrom 47 = .ok (.goto (-33), 3) := by decide +kernel
theorem dX3_tryFrom_50 : decode cX3_tryFrom 50 = .ok (.iload_n 2, 1) := by decide +kernel
theorem dX3_tryFrom_51 : decode cX3_tryFrom 51 = .ok (.ireturn, 1) := by decide +kernel
theorem dX3_fits_0 : decode cX3_fits 0 = .ok (.iconst 0, 1) := by decide +kernel
theorem dX3_fits_1 : decode cX3_fits 1 = .ok (.istore_n 2, 1) := by decide +kernel
theorem dX3_fits_2 : decode cX3_fits 2 = .ok (.iload_n 2, 1) := by decide +kernel
theorem dX3_fits_3 : decode cX3_fits 3 = .ok (.aload_n 0, 1) := by decide +kernel
theorem dX3_fits_4 : decode cX3_fits 4 = .ok (.getfield 35, 3) := by decide +kernel
theorem dX3_fits_7 : decode cX3_fits 7 = .ok (.if_icmp .ge 78, 3) := by decide +kernel
theorem dX3_fits_10 : decode cX3_fits 10 = .ok (.aload_n 0, 1) := by decide +kernel
theorem dX3_fits_11 : decode cX3_fits 11 = .ok (.getfield 9, 3) := by decide +kernel
theorem dX3_fits_14 : decode cX3_fits 14 = .ok (.iload_n 2, 1) := by decide +kernel
theorem dX3_fits_15 : decode cX3_fits 15 = .ok (.iaload, 1) := by decide +kernel
theorem dX3_fits_16 : decode cX3_fits 16 = .ok (.istore_n 3, 1) := by decide +kernel
theorem dX3_fits_17 : decode cX3_fits 17 = .ok (.aload_n 0, 1) := by decide +kernel
theorem dX3_fits_18 : decode cX3_fits 18 = .ok (.getfield 15, 3) := by decide +kernel
theorem dX3_fits_21 : decode cX3_fits 21 = .ok (.iload_n 2, 1) := by decide +kernel
theorem dX3_fits_22 : decode cX3_fits 22 = .ok (.iaload, 1) := by decide +kernel
theorem dX3_fits_23 : decode cX3_fits 23 = .ok (.istore 4, 2) := by decide +kernel
theorem dX3_fits_25 : decode cX3_fits 25 = .ok (.aload_n 0, 1) := by decide +kernel
theorem dX3_fits_26 : decode cX3_fits 26 = .ok (.getfield 18, 3) := by decide +kernel
theorem dX3_fits_29 : decode cX3_fits 29 = .ok (.iload_n 2, 1) := by decide +kernel
theorem dX3_fits_30 : decode cX3_fits 30 = .ok (.iaload, 1) := by decide +kernel
theorem dX3_fits_31 : decode cX3_fits 31 = .ok (.istore 5, 2) := by decide +kernel
theorem dX3_fits_33 : decode cX3_fits 33 = .ok (.iload_n 3, 1) := by decide +kernel
theorem dX3_fits_34 : decode cX3_fits 34 = .ok (.iload 4, 2) := by decide +kernel
theorem dX3_fits_36 : decode cX3_fits 36 = .ok (.iload 5, 2) := by decide +kernel
theorem dX3_fits_38 : decode cX3_fits 38 = .ok (.invokestatic 97, 3) := by decide +kernel
theorem dX3_fits_41 : decode cX3_fits 41 = .ok (.invokestatic 97, 3) := by decide +kernel
theorem dX3_fits_44 : decode cX3_fits 44 = .ok (.iload_n 1, 1) := by decide +kernel
theorem dX3_fits_45 : decode cX3_fits 45 = .ok (.if_icmp .ne 34, 3) := by decide +kernel
theorem dX3_fits_48 : decode cX3_fits 48 = .ok (.iconst 2, 1) := by decide +kernel
theorem dX3_fits_49 : decode cX3_fits 49 = .ok (.aload_n 0, 1) := by decide +kernel
theorem dX3_fits_50 : decode cX3_fits 50 = .ok (.getfield 26, 3) := by decide +kernel
theorem dX3_fits_53 : decode cX3_fits 53 = .ok (.iload_n 3, 1) := by decide +kernel
theorem dX3_fits_54 : decode cX3_fits 54 = .ok (.iaload, 1) := by decide +kernel
theorem dX3_fits_55 : decode cX3_fits 55 = .ok (.imul, 1) := by decide +kernel
theorem dX3_fits_56 : decode cX3_fits 56 = .ok (.aload_n 0, 1) := by decide +kernel
theorem dX3_fits_57 : decode cX3_fits 57 = .ok (.getfield 26, 3) := by decide +kernel
theorem dX3_fits_60 : decode cX3_fits 60 = .ok (.iload 4, 2) := by decide +kernel
theorem dX3_fits_62 : decode cX3_fits 62 = .ok (.iaload, 1) := by decide +kernel
theorem dX3_fits_63 : decode cX3_fits 63 = .ok (.isub, 1) := by decide +kernel
theorem dX3_fits_64 : decode cX3_fits 64 = .ok (.aload_n 0, 1) := by decide +kernel
theorem dX3_fits_65 : decode cX3_fits 65 = .ok (.getfield 26, 3) := by decide +kernel
theorem dX3_fits_68 : decode cX3_fits 68 = .ok (.iload 5, 2) := by decide +kernel
theorem dX3_fits_70 : decode cX3_fits 70 = .ok (.iaload, 1) := by decide +kernel
theorem dX3_fits_71 : decode cX3_fits 71 = .ok (.isub, 1) := by decide +kernel
theorem dX3_fits_72 : decode cX3_fits 72 = .ok (.iconst 3, 1) := by decide +kernel
theorem dX3_fits_73 : decode cX3_fits 73 = .ok (.irem, 1) := by decide +kernel
theorem dX3_fits_74 : decode cX3_fits 74 = .ok (.ifCond .eq 5, 3) := by decide +kernel
theorem dX3_fits_77 : decode cX3_fits 77 = .ok (.iconst 0, 1) := by decide +kernel
theorem dX3_fits_78 : decode cX3_fits 78 = .ok (.ireturn, 1) := by decide +kernel
theorem dX3_fits_79 : decode cX3_fits 79 = .ok (.iinc 2 1, 3) := by decide +kernel
theorem dX3_fits_82 : decode cX3_fits 82 = .ok (.goto (-80), 3) := by decide +kernel
theorem dX3_fits_85 : decode cX3_fits 85 = .ok (.iconst 1, 1) := by decide +kernel
theorem dX3_fits_86 : decode cX3_fits 86 = .ok (.ireturn, 1) := by decide +kernel
theorem dX5_init_0 : decode cX5_init 0 = .ok (.aload_n 0, 1) := by decide +kernel
theorem dX5_init_1 : decode cX5_init 1 = .ok (.invokespecial 3, 3) := by decide +kernel
theorem dX5_init_4 : decode cX5_init 4 = .ok (.aload_n 0, 1) := by decide +kernel
theorem dX5_init_5 : decode cX5_init 5 = .ok (.bipush 7, 2) := by decide +kernel
theorem dX5_init_7 : decode cX5_init 7 = .ok (.newarray .int, 2) := by decide +kernel
theorem dX5_init_9 : decode cX5_init 9 = .ok (.putfield 9, 3) := by decide +kernel
theorem dX5_init_12 : decode cX5_init 12 = .ok (.aload_n 0, 1) := by decide +kernel
theorem dX5_init_13 : decode cX5_init 13 = .ok (.bipush 7, 2) := by decide +kernel
theorem dX5_init_15 : decode cX5_init 15 = .ok (.newarray .int, 2) := by decide +kernel
theorem dX5_init_17 : decode cX5_init 17 = .ok (.putfield 15, 3) := by decide +kernel
theorem dX5_init_20 : decode cX5_init 20 = .ok (.aload_n 0, 1) := by decide +kernel
theorem dX5_init_21 : decode cX5_init 21 = .ok (.bipush 7, 2) := by decide +kernel
theorem dX5_init_23 : decode cX5_init 23 = .ok (.newarray .boolean, 2) := by decide +kernel
theorem dX5_init_25 : decode cX5_init 25 = .ok (.putfield 18, 3) := by decide +kernel
theorem dX5_init_28 : decode cX5_init 28 = .ok (.return_, 1) := by decide +kernel
theorem dX5_copyFrom_0 : decode cX5_copyFrom 0 = .ok (.aload_n 0, 1) := by decide +kernel
theorem dX5_copyFrom_1 : decode cX5_copyFrom 1 = .ok (.aload_n 1, 1) := by decide +kernel
theorem dX5_copyFrom_2 : decode cX5_copyFrom 2 = .ok (.getfield 22, 3) := by decide +kernel
theorem dX5_copyFrom_5 : decode cX5_copyFrom 5 = .ok (.putfield 22, 3) := by decide +kernel
theorem dX5_copyFrom_8 : decode cX5_copyFrom 8 = .ok (.iconst 0, 1) := by decide +kernel
theorem dX5_copyFrom_9 : decode cX5_copyFrom 9 = .ok (.istore_n 2, 1) := by decide +kernel
theorem dX5_copyFrom_10 : decode cX5_copyFrom 10 = .ok (.iload_n 2, 1) := by decide +kernel
theorem dX5_copyFrom_11 : decode cX5_copyFrom 11 = .ok (.aload_n 0, 1) := by decide +kernel
theorem dX5_copyFrom_12 : decode cX5_copyFrom 12 = .ok (.getfield 22, 3) := by decide +kernel
theorem dX5_copyFrom_15 : decode cX5_copyFrom 15 = .ok (.if_icmp .ge 45, 3) := by decide +kernel
theorem dX5_copyFrom_18 : decode cX5_copyFrom 18 = .ok (.aload_n 0, 1) := by decide +kernel
theorem dX5_copyFrom_19 : decode cX5_copyFrom 19 = .ok (.getfield 9, 3) := by decide +kernel
theorem dX5_copyFrom_22 : decode cX5_copyFrom 22 = .ok (.iload_n 2, 1) := by decide +kernel
theorem dX5_copyFrom_23 : decode cX5_copyFrom 23 = .ok (.aload_n 1, 1) := by decide +kernel
theorem dX5_copyFrom_24 : decode cX5_copyFrom 24 = .ok (.getfield 9, 3) := by decide +kernel
theorem dX5_copyFrom_27 : decode cX5_copyFrom 27 = .ok (.iload_n 2, 1) := by decide +kernel
theorem dX5_copyFrom_28 : decode cX5_copyFrom 28 = .ok (.iaload, 1) := by decide +kernel
theorem dX5_copyFrom_29 : decode cX5_copyFrom 29 = .ok (.iastore, 1) := by decide +kernel
theorem dX5_copyFrom_30 : decode cX5_copyFrom 30 = .ok (.aload_n 0, 1) := by decide +kernel
theorem dX5_copyFrom_31 : decode cX5_copyFrom 31 = .ok (.getfield 15, 3) := by decide +kernel
theorem dX5_copyFrom_34 : decode cX5_copyFrom 34 = .ok (.iload_n 2, 1) := by decide +kernel
theorem dX5_copyFrom_35 : decode cX5_copyFrom 35 = .ok (.aload_n 1, 1) := by decide +kernel
theorem dX5_copyFrom_36 : decode cX5_copyFrom 36 = .ok (.getfield 15, 3) := by decide +kernel
theorem dX5_copyFrom_39 : decode cX5_copyFrom 39 = .ok (.iload_n 2, 1) := by decide +kernel
theorem dX5_copyFrom_40 : decode cX5_copyFrom 40 = .ok (.iaload, 1) := by decide +kernel
theorem dX5_copyFrom_41 : decode cX5_copyFrom 41 = .ok (.iastore, 1) := by decide +kernel
theorem dX5_copyFrom_42 : decode cX5_copyFrom 42 = .ok (.aload_n 0, 1) := by decide +kernel
theorem dX5_copyFrom_43 : decode cX5_copyFrom 43 = .ok (.getfield 18, 3) := by decide +kernel
theorem dX5_copyFrom_46 : decode cX5_copyFrom 46 = .ok (.iload_n 2, 1) := by decide +kernel
theorem dX5_copyFrom_47 : decode cX5_copyFrom 47 = .ok (.aload_n 1, 1) := by decide +kernel
theorem dX5_copyFrom_48 : decode cX5_copyFrom 48 = .ok (.getfield 18, 3) := by decide +kernel
theorem dX5_copyFrom_51 : decode cX5_copyFrom 51 = .ok (.iload_n 2, 1) := by decide +kernel
theorem dX5_copyFrom_52 : decode cX5_copyFrom 52 = .ok (.baload, 1) := by decide +kernel
theorem dX5_copyFrom_53 : decode cX5_copyFrom 53 = .ok (.bastore, 1) := by decide +kernel
theorem dX5_copyFrom_54 : decode cX5_copyFrom 54 = .ok (.iinc 2 1, 3) := by decide +kernel
theorem dX5_copyFrom_57 : decode cX5_copyFrom 57 = .ok (.goto (-47), 3) := by decide +kernel
theorem dX5_copyFrom_60 : decode cX5_copyFrom 60 = .ok (.return_, 1) := by decide +kernel
theorem dX5_copySwitched_0 : decode cX5_copySwitched 0 = .ok (.aload_n 0, 1) := by decide +kernel
theorem dX5_copySwitched_1 : decode cX5_copySwitched 1 = .ok (.aload_n 1, 1) := by decide +kernel
theorem dX5_copySwitched_2 : decode cX5_copySwitched 2 = .ok (.invokevirtual 26, 3) := by decide +kernel
theorem dX5_copySwitched_5 : decode cX5_copySwitched 5 = .ok (.iconst 0, 1) := by decide +kernel
theorem dX5_copySwitched_6 : decode cX5_copySwitched 6 = .ok (.istore_n 3, 1) := by decide +kernel
theorem dX5_copySwitched_7 : decode cX5_copySwitched 7 = .ok (.iload_n 3, 1) := by decide +kernel
theorem dX5_copySwitched_8 : decode cX5_copySwitched 8 = .ok (.aload_n 0, 1) := by decide +kernel
theorem dX5_copySwitched_9 : decode cX5_copySwitched 9 = .ok (.getfield 22, 3) := by decide +kernel
theorem dX5_copySwitched_12 : decode cX5_copySwitched 12 = .ok (.if_icmp .ge 22, 3) := by decide +kernel
theorem dX5_copySwitched_15 : decode cX5_copySwitched 15 = .ok (.iload_n 3, 1) := by decide +kernel
theorem dX5_copySwitched_16 : decode cX5_copySwitched 16 = .ok (.iload_n 2, 1) := by decide +kernel
theorem dX5_copySwitched_17 : decode cX5_copySwitched 17 = .ok (.invokestatic 30, 3) := by decide +kernel
theorem dX5_copySwitched_20 : decode cX5_copySwitched 20 = .ok (.ifCond .eq 8, 3) := by decide +kernel
theorem dX5_copySwitched_23 : decode cX5_copySwitched 23 = .ok (.aload_n 0, 1) := by decide +kernel
theorem dX5_copySwitched_24 : decode cX5_copySwitched 24 = .ok (.iload_n 3, 1) := by decide +kernel
theorem dX5_copySwitched_25 : decode cX5_copySwitched 25 = .ok (.invokevirtual 34, 3) := by decide +kernel
theorem dX5_copySwitched_28 : decode cX5_copySwitched 28 = .ok (.iinc 3 1, 3) := by decide +kernel
theorem dX5_copySwitched_31 : decode cX5_copySwitched 31 = .ok (.goto (-24), 3) := by decide +kernel
theorem dX5_copySwitched_34 : decode cX5_copySwitched 34 = .ok (.return_, 1) := by decide +kernel
theorem dX5_passes_0 : decode cX5_passes 0 = .ok (.iconst 2, 1) := by decide +kernel
theorem dX5_passes_1 : decode cX5_passes 1 = .ok (.aload_n 0, 1) := by decide +kernel
theorem dX5_passes_2 : decode cX5_passes 2 = .ok (.getfield 22, 3) := by decide +kernel
theorem dX5_passes_5 : decode cX5_passes 5 = .ok (.imul, 1) := by decide +kernel
theorem dX5_passes_6 : decode cX5_passes 6 = .ok (.ireturn, 1) := by decide +kernel
theorem dX5_sets_0 : decode cX5_sets 0 = .ok (.iconst 1, 1) := by decide +kernel
theorem dX5_sets_1 : decode cX5_sets 1 = .ok (.aload_n 0, 1) := by decide +kernel
theorem dX5_sets_2 : decode cX5_sets 2 = .ok (.getfield 22, 3) := by decide +kernel
theorem dX5_sets_5 : decode cX5_sets 5 = .ok (.ishl, 1) := by decide +kernel
theorem dX5_sets_6 : decode cX5_sets 6 = .ok (.ireturn, 1) := by decide +kernel
theorem dX5_arcs_0 : decode cX5_arcs 0 = .ok (.aload_n 0, 1) := by decide +kernel
theorem dX5_arcs_1 : decode cX5_arcs 1 = .ok (.getfield 22, 3) := by decide +kernel
theorem dX5_arcs_4 : decode cX5_arcs 4 = .ok (.ifCond .ne 7, 3) := by decide +kernel
theorem dX5_arcs_7 : decode cX5_arcs 7 = .ok (.iconst 1, 1) := by decide +kernel
theorem dX5_arcs_8 : decode cX5_arcs 8 = .ok (.goto 7, 3) := by decide +kernel
theorem dX5_arcs_11 : decode cX5_arcs 11 = .ok (.aload_n 0, 1) := by decide +kernel
theorem dX5_arcs_12 : decode cX5_arcs 12 = .ok (.getfield 22, 3) := by decide +kernel
theorem dX5_arcs_15 : decode cX5_arcs 15 = .ok (.ireturn, 1) := by decide +kernel
theorem dX5_hasPlace_0 : decode cX5_hasPlace 0 = .ok (.iload_n 1, 1) := by decide +kernel
theorem dX5_hasPlace_1 : decode cX5_hasPlace 1 = .ok (.ifCond .lt 17, 3) := by decide +kernel
theorem dX5_hasPlace_4 : decode cX5_hasPlace 4 = .ok (.iload_n 1, 1) := by decide +kernel
theorem dX5_hasPlace_5 : decode cX5_hasPlace 5 = .ok (.iconst 2, 1) := by decide +kernel
theorem dX5_hasPlace_6 : decode cX5_hasPlace 6 = .ok (.aload_n 0, 1) := by decide +kernel
theorem dX5_hasPlace_7 : decode cX5_hasPlace 7 = .ok (.getfield 22, 3) := by decide +kernel
theorem dX5_hasPlace_10 : decode cX5_hasPlace 10 = .ok (.imul, 1) := by decide +kernel
theorem dX5_hasPlace_11 : decode cX5_hasPlace 11 = .ok (.if_icmp .gt 7, 3) := by decide +kernel
theorem dX5_hasPlace_14 : decode cX5_hasPlace 14 = .ok (.iconst 1, 1) := by decide +kernel
theorem dX5_hasPlace_15 : decode cX5_hasPlace 15 = .ok (.goto 4, 3) := by decide +kernel
theorem dX5_hasPlace_18 : decode cX5_hasPlace 18 = .ok (.iconst 0, 1) := by decide +kernel
theorem dX5_hasPlace_19 : decode cX5_hasPlace 19 = .ok (.ireturn, 1) := by decide +kernel
theorem dX5_hasPosition_0 : decode cX5_hasPosition 0 = .ok (.iload_n 1, 1) := by decide +kernel
theorem dX5_hasPosition_1 : decode cX5_hasPosition 1 = .ok (.ifCond .lt 17, 3) := by decide +kernel
theorem dX5_hasPosition_4 : decode cX5_hasPosition 4 = .ok (.iload_n 1, 1) := by decide +kernel
theorem dX5_hasPosition_5 : decode cX5_hasPosition 5 = .ok (.iconst 2, 1) := by decide +kernel
theorem dX5_hasPosition_6 : decode cX5_hasPosition 6 = .ok (.aload_n 0, 1) := by decide +kernel
theorem dX5_hasPosition_7 : decode cX5_hasPosition 7 = .ok (.getfield 22, 3) := by decide +kernel
theorem dX5_hasPosition_10 : decode cX5_hasPosition 10 = .ok (.imul, 1) := by decide +kernel
theorem dX5_hasPosition_11 : decode cX5_hasPosition 11 = .ok (.if_icmp .ge 7, 3) := by decide +kernel
theorem dX5_hasPosition_14 : decode cX5_hasPosition 14 = .ok (.iconst 1, 1) := by decide +kernel
theorem dX5_hasPosition_15 : decode cX5_hasPosition 15 = .ok (.goto 4, 3) := by decide +kernel
theorem dX5_hasPosition_18 : decode cX5_hasPosition 18 = .ok (.iconst 0, 1) := by decide +kernel
theorem dX5_hasPosition_19 : decode cX5_hasPosition 19 = .ok (.ireturn, 1) := by decide +kernel
theorem dX5_hasCrossing_0 : decode cX5_hasCrossing 0 = .ok (.iload_n 1, 1) := by decide +kernel
theorem dX5_hasCrossing_1 : decode cX5_hasCrossing 1 = .ok (.ifCond .lt 15, 3) := by decide +kernel
theorem dX5_hasCrossing_4 : decode cX5_hasCrossing 4 = .ok (.iload_n 1, 1) := by decide +kernel
theorem dX5_hasCrossing_5 : decode cX5_hasCrossing 5 = .ok (.aload_n 0, 1) := by decide +kernel
theorem dX5_hasCrossing_6 : decode cX5_hasCrossing 6 = .ok (.getfield 22, 3) := by decide +kernel
theorem dX5_hasCrossing_9 : decode cX5_hasCrossing 9 = .ok (.if_icmp .ge 7, 3) := by decide +kernel
theorem dX5_hasCrossing_12 : decode cX5_hasCrossing 12 = .ok (.iconst 1, 1) := by decide +kernel
theorem dX5_hasCrossing_13 : decode cX5_hasCrossing 13 = .ok (.goto 4, 3) := by decide +kernel
theorem dX5_hasCrossing_16 : decode cX5_hasCrossing 16 = .ok (.iconst 0, 1) := by decide +kernel
theorem dX5_hasCrossing_17 : decode cX5_hasCrossing 17 = .ok (.ireturn, 1) := by decide +kernel
theorem dX5_crossingOf_0 : decode cX5_crossingOf 0 = .ok (.iconst 0, 1) := by decide +kernel
theorem dX5_crossingOf_1 : decode cX5_crossingOf 1 = .ok (.istore_n 2, 1) := by decide +kernel
theorem dX5_crossingOf_2 : decode cX5_crossingOf 2 = .ok (.iload_n 2, 1) := by decide +kernel
theorem dX5_crossingOf_3 : decode cX5_crossingOf 3 = .ok (.aload_n 0, 1) := by decide +kernel
theorem dX5_crossingOf_4 : decode cX5_crossingOf 4 = .ok (.getfield 22, 3) := by decide +kernel
theorem dX5_crossingOf_7 : decode cX5_crossingOf 7 = .ok (.if_icmp .ge 31, 3) := by decide +kernel
theorem dX5_crossingOf_10 : decode cX5_crossingOf 10 = .ok (.aload_n 0, 1) := by decide +kernel
theorem dX5_crossingOf_11 : decode cX5_crossingOf 11 = .ok (.getfield 9, 3) := by decide +kernel
theorem dX5_crossingOf_14 : decode cX5_crossingOf 14 = .ok (.iload_n 2, 1) := by decide +kernel
theorem dX5_crossingOf_15 : decode cX5_crossingOf 15 = .ok (.iaload, 1) := by decide +kernel
theorem dX5_crossingOf_16 : decode cX5_crossingOf 16 = .ok (.iload_n 1, 1) := by decide +kernel
theorem dX5_crossingOf_17 : decode cX5_crossingOf 17 = .ok (.if_icmp .eq 13, 3) := by decide +kernel
theorem dX5_crossingOf_20 : decode cX5_crossingOf 20 = .ok (.aload_n 0, 1) := by decide +kernel
theorem dX5_crossingOf_21 : decode cX5_crossingOf 21 = .ok (.getfield 15, 3) := by decide +kernel
theorem dX5_crossingOf_24 : decode cX5_crossingOf 24 = .ok (.iload_n 2, 1) := by decide +kernel
theorem dX5_crossingOf_25 : decode cX5_crossingOf 25 = .ok (.iaload, 1) := by decide +kernel
theorem dX5_crossingOf_26 : decode cX5_crossingOf 26 = .ok (.iload_n 1, 1) := by decide +kernel
theorem dX5_crossingOf_27 : decode cX5_crossingOf 27 = .ok (.if_icmp .ne 5, 3) := by decide +kernel
theorem dX5_crossingOf_30 : decode cX5_crossingOf 30 = .ok (.iload_n 2, 1) := by decide +kernel
theorem dX5_crossingOf_31 : decode cX5_crossingOf 31 = .ok (.ireturn, 1) := by decide +kernel
theorem dX5_crossingOf_32 : decode cX5_crossingOf 32 = .ok (.iinc 2 1, 3) := by decide +kernel
theorem dX5_crossingOf_35 : decode cX5_crossingOf 35 = .ok (.goto (-33), 3) := by decide +kernel
theorem dX5_crossingOf_38 : decode cX5_crossingOf 38 = .ok (.iconst (-1), 1) := by decide +kernel
theorem dX5_crossingOf_39 : decode cX5_crossingOf 39 = .ok (.ireturn, 1) := by decide +kernel
theorem dX5_passesOver_0 : decode cX5_passesOver 0 = .ok (.iconst 0, 1) := by decide +kernel
theorem dX5_passesOver_1 : decode cX5_passesOver 1 = .ok (.istore_n 2, 1) := by decide +kernel
theorem dX5_passesOver_2 : decode cX5_passesOver 2 = .ok (.iload_n 2, 1) := by decide +kernel
theorem dX5_passesOver_3 : decode cX5_passesOver 3 = .ok (.aload_n 0, 1) := by decide +kernel
theorem dX5_passesOver_4 : decode cX5_passesOver 4 = .ok (.getfield 22, 3) := by decide +kernel
theorem dX5_passesOver_7 : decode cX5_passesOver 7 = .ok (.if_icmp .ge 21, 3) := by decide +kernel
theorem dX5_passesOver_10 : decode cX5_passesOver 10 = .ok (.aload_n 0, 1) := by decide +kernel
theorem dX5_passesOver_11 : decode cX5_passesOver 11 = .ok (.getfield 9, 3) := by decide +kernel
theorem dX5_passesOver_14 : decode cX5_passesOver 14 = .ok (.iload_n 2, 1) := by decide +kernel
theorem dX5_passesOver_15 : decode cX5_passesOver 15 = .ok (.iaload, 1) := by decide +kernel
theorem dX5_passesOver_16 : decode cX5_passesOver 16 = .ok (.iload_n 1, 1) := by decide +kernel
theorem dX5_passesOver_17 : decode cX5_passesOver 17 = .ok (.if_icmp .ne 5, 3) := by decide +kernel
theorem dX5_passesOver_20 : decode cX5_passesOver 20 = .ok (.iconst 1, 1) := by decide +kernel
theorem dX5_passesOver_21 : decode cX5_passesOver 21 = .ok (.ireturn, 1) := by decide +kernel
theorem dX5_passesOver_22 : decode cX5_passesOver 22 = .ok (.iinc 2 1, 3) := by decide +kernel
theorem dX5_passesOver_25 : decode cX5_passesOver 25 = .ok (.goto (-23), 3) := by decide +kernel
theorem dX5_passesOver_28 : decode cX5_passesOver 28 = .ok (.iconst 0, 1) := by decide +kernel
theorem dX5_passesOver_29 : decode cX5_passesOver 29 = .ok (.ireturn, 1) := by decide +kernel
theorem dX5_positiveAt_0 : decode cX5_positiveAt 0 = .ok (.aload_n 0, 1) := by decide +kernel
theorem dX5_positiveAt_1 : decode cX5_positiveAt 1 = .ok (.iload_n 1, 1) := by decide +kernel
theorem dX5_positiveAt_2 : decode cX5_positiveAt 2 = .ok (.invokevirtual 38, 3) := by decide +kernel
theorem dX5_positiveAt_5 : decode cX5_positiveAt 5 = .ok (.istore_n 2, 1) := by decide +kernel
theorem dX5_positiveAt_6 : decode cX5_positiveAt 6 = .ok (.aload_n 0, 1) := by decide +kernel
theorem dX5_positiveAt_7 : decode cX5_positiveAt 7 = .ok (.iload_n 2, 1) := by decide +kernel
theorem dX5_positiveAt_8 : decode cX5_positiveAt 8 = .ok (.invokevirtual 42, 3) := by decide +kernel
theorem dX5_positiveAt_11 : decode cX5_positiveAt 11 = .ok (.ifCond .eq 16, 3) := by decide +kernel
theorem dX5_positiveAt_14 : decode cX5_positiveAt 14 = .ok (.aload_n 0, 1) := by decide +kernel
theorem dX5_positiveAt_15 : decode cX5_positiveAt 15 = .ok (.getfield 18, 3) := by decide +kernel
theorem dX5_positiveAt_18 : decode cX5_positiveAt 18 = .ok (.iload_n 2, 1) := by decide +kernel
theorem dX5_positiveAt_19 : decode cX5_positiveAt 19 = .ok (.baload, 1) := by decide +kernel
theorem dX5_positiveAt_20 : decode cX5_positiveAt 20 = .ok (.ifCond .eq 7, 3) := by decide +kernel
theorem dX5_positiveAt_23 : decode cX5_positiveAt 23 = .ok (.iconst 1, 1) := by decide +kernel
theorem dX5_positiveAt_24 : decode cX5_positiveAt 24 = .ok (.goto 4, 3) := by decide +kernel
theorem dX5_positiveAt_27 : decode cX5_positiveAt 27 = .ok (.iconst 0, 1) := by decide +kernel
theorem dX5_positiveAt_28 : decode cX5_positiveAt 28 = .ok (.ireturn, 1) := by decide +kernel
theorem dX5_before_0 : decode cX5_before 0 = .ok (.iload_n 1, 1) := by decide +kernel
theorem dX5_before_1 : decode cX5_before 1 = .ok (.ifCond .ne 14, 3) := by decide +kernel
theorem dX5_before_4 : decode cX5_before 4 = .ok (.iconst 2, 1) := by decide +kernel
theorem dX5_before_5 : decode cX5_before 5 = .ok (.aload_n 0, 1) := by decide +kernel
theorem dX5_before_6 : decode cX5_before 6 = .ok (.getfield 22, 3) := by decide +kernel
theorem dX5_before_9 : decode cX5_before 9 = .ok (.imul, 1) := by decide +kernel
theorem dX5_before_10 : decode cX5_before 10 = .ok (.iconst 1, 1) := by decide +kernel
theorem dX5_before_11 : decode cX5_before 11 = .ok (.isub, 1) := by decide +kernel
theorem dX5_before_12 : decode cX5_before 12 = .ok (.goto 6, 3) := by decide +kernel
theorem dX5_before_15 : decode cX5_before 15 = .ok (.iload_n 1, 1) := by decide +kernel
theorem dX5_before_16 : decode cX5_before 16 = .ok (.iconst 1, 1) := by decide +kernel
theorem dX5_before_17 : decode cX5_before 17 = .ok (.isub, 1) := by decide +kernel
theorem dX5_before_18 : decode cX5_before 18 = .ok (.ireturn, 1) := by decide +kernel
theorem dX5_after_0 : decode cX5_after 0 = .ok (.iload_n 1, 1) := by decide +kernel
theorem dX5_after_1 : decode cX5_after 1 = .ok (.iconst 2, 1) := by decide +kernel
theorem dX5_after_2 : decode cX5_after 2 = .ok (.aload_n 0, 1) := by decide +kernel
theorem dX5_after_3 : decode cX5_after 3 = .ok (.getfield 22, 3) := by decide +kernel
theorem dX5_after_6 : decode cX5_after 6 = .ok (.imul, 1) := by decide +kernel
theorem dX5_after_7 : decode cX5_after 7 = .ok (.iconst 1, 1) := by decide +kernel
theorem dX5_after_8 : decode cX5_after 8 = .ok (.isub, 1) := by decide +kernel
theorem dX5_after_9 : decode cX5_after 9 = .ok (.if_icmp .ne 7, 3) := by decide +kernel
theorem dX5_after_12 : decode cX5_after 12 = .ok (.iconst 0, 1) := by decide +kernel
theorem dX5_after_13 : decode cX5_after 13 = .ok (.goto 6, 3) := by decide +kernel
theorem dX5_after_16 : decode cX5_after 16 = .ok (.iload_n 1, 1) := by decide +kernel
theorem dX5_after_17 : decode cX5_after 17 = .ok (.iconst 1, 1) := by decide +kernel
theorem dX5_after_18 : decode cX5_after 18 = .ok (.iadd, 1) := by decide +kernel
theorem dX5_after_19 : decode cX5_after 19 = .ok (.ireturn, 1) := by decide +kernel
theorem dX5_arcOf_0 : decode cX5_arcOf 0 = .ok (.iconst 0, 1) := by decide +kernel
theorem dX5_arcOf_1 : decode cX5_arcOf 1 = .ok (.istore_n 2, 1) := by decide +kernel
theorem dX5_arcOf_2 : decode cX5_arcOf 2 = .ok (.iconst 0, 1) := by decide +kernel
theorem dX5_arcOf_3 : decode cX5_arcOf 3 = .ok (.istore_n 3, 1) := by decide +kernel
theorem dX5_arcOf_4 : decode cX5_arcOf 4 = .ok (.iload_n 3, 1) := by decide +kernel
theorem dX5_arcOf_5 : decode cX5_arcOf 5 = .ok (.aload_n 0, 1) := by decide +kernel
theorem dX5_arcOf_6 : decode cX5_arcOf 6 = .ok (.getfield 22, 3) := by decide +kernel
theorem dX5_arcOf_9 : decode cX5_arcOf 9 = .ok (.if_icmp .ge 22, 3) := by decide +kernel
theorem dX5_arcOf_12 : decode cX5_arcOf 12 = .ok (.aload_n 0, 1) := by decide +kernel
theorem dX5_arcOf_13 : decode cX5_arcOf 13 = .ok (.getfield 15, 3) := by decide +kernel
theorem dX5_arcOf_16 : decode cX5_arcOf 16 = .ok (.iload_n 3, 1) := by decide +kernel
theorem dX5_arcOf_17 : decode cX5_arcOf 17 = .ok (.iaload, 1) := by decide +kernel
theorem dX5_arcOf_18 : decode cX5_arcOf 18 = .ok (.iload_n 1, 1) := by decide +kernel
theorem dX5_arcOf_19 : decode cX5_arcOf 19 = .ok (.if_icmp .gt 6, 3) := by decide +kernel
theorem dX5_arcOf_22 : decode cX5_arcOf 22 = .ok (.iinc 2 1, 3) := by decide +kernel
theorem dX5_arcOf_25 : decode cX5_arcOf 25 = .ok (.iinc 3 1, 3) := by decide +kernel
theorem dX5_arcOf_28 : decode cX5_arcOf 28 = .ok (.goto (-24), 3) := by decide +kernel
theorem dX5_arcOf_31 : decode cX5_arcOf 31 = .ok (.iload_n 2, 1) := by decide +kernel
theorem dX5_arcOf_32 : decode cX5_arcOf 32 = .ok (.ifCond .ne 12, 3) := by decide +kernel
theorem dX5_arcOf_35 : decode cX5_arcOf 35 = .ok (.aload_n 0, 1) := by decide +kernel
theorem dX5_arcOf_36 : decode cX5_arcOf 36 = .ok (.getfield 22, 3) := by decide +kernel
theorem dX5_arcOf_39 : decode cX5_arcOf 39 = .ok (.iconst 1, 1) := by decide +kernel
theorem dX5_arcOf_40 : decode cX5_arcOf 40 = .ok (.isub, 1) := by decide +kernel
theorem dX5_arcOf_41 : decode cX5_arcOf 41 = .ok (.goto 6, 3) := by decide +kernel
theorem dX5_arcOf_44 : decode cX5_arcOf 44 = .ok (.iload_n 2, 1) := by decide +kernel
theorem dX5_arcOf_45 : decode cX5_arcOf 45 = .ok (.iconst 1, 1) := by decide +kernel
theorem dX5_arcOf_46 : decode cX5_arcOf 46 = .ok (.isub, 1) := by decide +kernel
theorem dX5_arcOf_47 : decode cX5_arcOf 47 = .ok (.ireturn, 1) := by decide +kernel
theorem dX5_signSum_0 : decode cX5_signSum 0 = .ok (.iconst 0, 1) := by decide +kernel
theorem dX5_signSum_1 : decode cX5_signSum 1 = .ok (.istore_n 1, 1) := by decide +kernel
theorem dX5_signSum_2 : decode cX5_signSum 2 = .ok (.iconst 0, 1) := by decide +kernel
theorem dX5_signSum_3 : decode cX5_signSum 3 = .ok (.istore_n 2, 1) := by decide +kernel
theorem dX5_signSum_4 : decode cX5_signSum 4 = .ok (.iload_n 2, 1) := by decide +kernel
theorem dX5_signSum_5 : decode cX5_signSum 5 = .ok (.aload_n 0, 1) := by decide +kernel
theorem dX5_signSum_6 : decode cX5_signSum 6 = .ok (.getfield 22, 3) := by decide +kernel
theorem dX5_signSum_9 : decode cX5_signSum 9 = .ok (.if_icmp .ge 26, 3) := by decide +kernel
theorem dX5_signSum_12 : decode cX5_signSum 12 = .ok (.iload_n 1, 1) := by decide +kernel
theorem dX5_signSum_13 : decode cX5_signSum 13 = .ok (.aload_n 0, 1) := by decide +kernel
theorem dX5_signSum_14 : decode cX5_signSum 14 = .ok (.getfield 18, 3) := by decide +kernel
theorem dX5_signSum_17 : decode cX5_signSum 17 = .ok (.iload_n 2, 1) := by decide +kernel
theorem dX5_signSum_18 : decode cX5_signSum 18 = .ok (.baload, 1) := by decide +kernel
theorem dX5_signSum_19 : decode cX5_signSum 19 = .ok (.ifCond .eq 7, 3) := by decide +kernel
theorem dX5_signSum_22 : decode cX5_signSum 22 = .ok (.iconst 1, 1) := by decide +kernel
theorem dX5_signSum_23 : decode cX5_signSum 23 = .ok (.goto 4, 3) := by decide +kernel
theorem dX5_signSum_26 : decode cX5_signSum 26 = .ok (.iconst (-1), 1) := by decide +kernel
theorem dX5_signSum_27 : decode cX5_signSum 27 = .ok (.iadd, 1) := by decide +kernel
theorem dX5_signSum_28 : decode cX5_signSum 28 = .ok (.istore_n 1, 1) := by decide +kernel
theorem dX5_signSum_29 : decode cX5_signSum 29 = .ok (.iinc 2 1, 3) := by decide +kernel
theorem dX5_signSum_32 : decode cX5_signSum 32 = .ok (.goto (-28), 3) := by decide +kernel
theorem dX5_signSum_35 : decode cX5_signSum 35 = .ok (.iload_n 1, 1) := by decide +kernel
theorem dX5_signSum_36 : decode cX5_signSum 36 = .ok (.ireturn, 1) := by decide +kernel
theorem dX5_alternates_0 : decode cX5_alternates 0 = .ok (.iconst 0, 1) := by decide +kernel
theorem dX5_alternates_1 : decode cX5_alternates 1 = .ok (.istore_n 1, 1) := by decide +kernel
theorem dX5_alternates_2 : decode cX5_alternates 2 = .ok (.iload_n 1, 1) := by decide +kernel
theorem dX5_alternates_3 : decode cX5_alternates 3 = .ok (.aload_n 0, 1) := by decide +kernel
theorem dX5_alternates_4 : decode cX5_alternates 4 = .ok (.getfield 22, 3) := by decide +kernel
theorem dX5_alternates_7 : decode cX5_alternates 7 = .ok (.if_icmp .ge 28, 3) := by decide +kernel
theorem dX5_alternates_10 : decode cX5_alternates 10 = .ok (.aload_n 0, 1) := by decide +kernel
theorem dX5_alternates_11 : decode cX5_alternates 11 = .ok (.aload_n 0, 1) := by decide +kernel
theorem dX5_alternates_12 : decode cX5_alternates 12 = .ok (.aload_n 0, 1) := by decide +kernel
theorem dX5_alternates_13 : decode cX5_alternates 13 = .ok (.getfield 9, 3) := by decide +kernel
theorem dX5_alternates_16 : decode cX5_alternates 16 = .ok (.iload_n 1, 1) := by decide +kernel
theorem dX5_alternates_17 : decode cX5_alternates 17 = .ok (.iaload, 1) := by decide +kernel
theorem dX5_alternates_18 : decode cX5_alternates 18 = .ok (.invokevirtual 46, 3) := by decide +kernel
theorem dX5_alternates_21 : decode cX5_alternates 21 = .ok (.invokevirtual 49, 3) := by decide +kernel
theorem dX5_alternates_24 : decode cX5_alternates 24 = .ok (.ifCond .eq 5, 3) := by decide +kernel
theorem dX5_alternates_27 : decode cX5_alternates 27 = .ok (.iconst 0, 1) := by decide +kernel
theorem dX5_alternates_28 : decode cX5_alternates 28 = .ok (.ireturn, 1) := by decide +kernel
theorem dX5_alternates_29 : decode cX5_alternates 29 = .ok (.iinc 1 1, 3) := by decide +kernel
theorem dX5_alternates_32 : decode cX5_alternates 32 = .ok (.goto (-30), 3) := by decide +kernel
theorem dX5_alternates_35 : decode cX5_alternates 35 = .ok (.iconst 1, 1) := by decide +kernel
theorem dX5_alternates_36 : decode cX5_alternates 36 = .ok (.ireturn, 1) := by decide +kernel
theorem dX5_curls_0 : decode cX5_curls 0 = .ok (.aload_n 0, 1) := by decide +kernel
theorem dX5_curls_1 : decode cX5_curls 1 = .ok (.aload_n 0, 1) := by decide +kernel
theorem dX5_curls_2 : decode cX5_curls 2 = .ok (.getfield 9, 3) := by decide +kernel
theorem dX5_curls_5 : decode cX5_curls 5 = .ok (.iload_n 1, 1) := by decide +kernel
theorem dX5_curls_6 : decode cX5_curls 6 = .ok (.iaload, 1) := by decide +kernel
theorem dX5_curls_7 : decode cX5_curls 7 = .ok (.aload_n 0, 1) := by decide +kernel
theorem dX5_curls_8 : decode cX5_curls 8 = .ok (.getfield 15, 3) := by decide +kernel
theorem dX5_curls_11 : decode cX5_curls 11 = .ok (.iload_n 1, 1) := by decide +kernel
theorem dX5_curls_12 : decode cX5_curls 12 = .ok (.iaload, 1) := by decide +kernel
theorem dX5_curls_13 : decode cX5_curls 13 = .ok (.invokevirtual 52, 3) := by decide +kernel
theorem dX5_curls_16 : decode cX5_curls 16 = .ok (.iconst 1, 1) := by decide +kernel
theorem dX5_curls_17 : decode cX5_curls 17 = .ok (.if_icmp .ne 7, 3) := by decide +kernel
theorem dX5_curls_20 : decode cX5_curls 20 = .ok (.iconst 1, 1) := by decide +kernel
theorem dX5_curls_21 : decode cX5_curls 21 = .ok (.goto 4, 3) := by decide +kernel
theorem dX5_curls_24 : decode cX5_curls 24 = .ok (.iconst 0, 1) := by decide +kernel
theorem dX5_curls_25 : decode cX5_curls 25 = .ok (.ireturn, 1) := by decide +kernel
theorem dX5_pokes_0 : decode cX5_pokes 0 = .ok (.aload_n 0, 1) := by decide +kernel
theorem dX5_pokes_1 : decode cX5_pokes 1 = .ok (.getfield 18, 3) := by decide +kernel
theorem dX5_pokes_4 : decode cX5_pokes 4 = .ok (.iload_n 1, 1) := by decide +kernel
theorem dX5_pokes_5 : decode cX5_pokes 5 = .ok (.baload, 1) := by decide +kernel
theorem dX5_pokes_6 : decode cX5_pokes 6 = .ok (.aload_n 0, 1) := by decide +kernel
theorem dX5_pokes_7 : decode cX5_pokes 7 = .ok (.getfield 18, 3) := by decide +kernel
theorem dX5_pokes_10 : decode cX5_pokes 10 = .ok (.iload_n 2, 1) := by decide +kernel
theorem dX5_pokes_11 : decode cX5_pokes 11 = .ok (.baload, 1) := by decide +kernel
theorem dX5_pokes_12 : decode cX5_pokes 12 = .ok (.if_icmp .eq 47, 3) := by decide +kernel
theorem dX5_pokes_15 : decode cX5_pokes 15 = .ok (.aload_n 0, 1) := by decide +kernel
theorem dX5_pokes_16 : decode cX5_pokes 16 = .ok (.aload_n 0, 1) := by decide +kernel
theorem dX5_pokes_17 : decode cX5_pokes 17 = .ok (.getfield 9, 3) := by decide +kernel
theorem dX5_pokes_20 : decode cX5_pokes 20 = .ok (.iload_n 1, 1) := by decide +kernel
theorem dX5_pokes_21 : decode cX5_pokes 21 = .ok (.iaload, 1) := by decide +kernel
theorem dX5_pokes_22 : decode cX5_pokes 22 = .ok (.aload_n 0, 1) := by decide +kernel
theorem dX5_pokes_23 : decode cX5_pokes 23 = .ok (.getfield 9, 3) := by decide +kernel
theorem dX5_pokes_26 : decode cX5_pokes 26 = .ok (.iload_n 2, 1) := by decide +kernel
theorem dX5_pokes_27 : decode cX5_pokes 27 = .ok (.iaload, 1) := by decide +kernel
theorem dX5_pokes_28 : decode cX5_pokes 28 = .ok (.invokevirtual 52, 3) := by decide +kernel
theorem dX5_pokes_31 : decode cX5_pokes 31 = .ok (.iconst 1, 1) := by decide +kernel
theorem dX5_pokes_32 : decode cX5_pokes 32 = .ok (.if_icmp .ne 27, 3) := by decide +kernel
theorem dX5_pokes_35 : decode cX5_pokes 35 = .ok (.aload_n 0, 1) := by decide +kernel
theorem dX5_pokes_36 : decode cX5_pokes 36 = .ok (.aload_n 0, 1) := by decide +kernel
theorem dX5_pokes_37 : decode cX5_pokes 37 = .ok (.getfield 15, 3) := by decide +kernel
theorem dX5_pokes_40 : decode cX5_pokes 40 = .ok (.iload_n 1, 1) := by decide +kernel
theorem dX5_pokes_41 : decode cX5_pokes 41 = .ok (.iaload, 1) := by decide +kernel
theorem dX5_pokes_42 : decode cX5_pokes 42 = .ok (.aload_n 0, 1) := by decide +kernel
theorem dX5_pokes_43 : decode cX5_pokes 43 = .ok (.getfield 15, 3) := by decide +kernel
theorem dX5_pokes_46 : decode cX5_pokes 46 = .ok (.iload_n 2, 1) := by decide +kernel
theorem dX5_pokes_47 : decode cX5_pokes 47 = .ok (.iaload, 1) := by decide +kernel
theorem dX5_pokes_48 : decode cX5_pokes 48 = .ok (.invokevirtual 52, 3) := by decide +kernel
theorem dX5_pokes_51 : decode cX5_pokes 51 = .ok (.iconst 1, 1) := by decide +kernel
theorem dX5_pokes_52 : decode cX5_pokes 52 = .ok (.if_icmp .ne 7, 3) := by decide +kernel
theorem dX5_pokes_55 : decode cX5_pokes 55 = .ok (.iconst 1, 1) := by decide +kernel
theorem dX5_pokes_56 : decode cX5_pokes 56 = .ok (.goto 4, 3) := by decide +kernel
theorem dX5_pokes_59 : decode cX5_pokes 59 = .ok (.iconst 0, 1) := by decide +kernel
theorem dX5_pokes_60 : decode cX5_pokes 60 = .ok (.ireturn, 1) := by decide +kernel
theorem dX5_distance_0 : decode cX5_distance 0 = .ok (.iload_n 1, 1) := by decide +kernel
theorem dX5_distance_1 : decode cX5_distance 1 = .ok (.iload_n 2, 1) := by decide +kernel
theorem dX5_distance_2 : decode cX5_distance 2 = .ok (.if_icmp .le 9, 3) := by decide +kernel
theorem dX5_distance_5 : decode cX5_distance 5 = .ok (.iload_n 1, 1) := by decide +kernel
theorem dX5_distance_6 : decode cX5_distance 6 = .ok (.iload_n 2, 1) := by decide +kernel
theorem dX5_distance_7 : decode cX5_distance 7 = .ok (.isub, 1) := by decide +kernel
theorem dX5_distance_8 : decode cX5_distance 8 = .ok (.goto 6, 3) := by decide +kernel
theorem dX5_distance_11 : decode cX5_distance 11 = .ok (.iload_n 2, 1) := by decide +kernel
theorem dX5_distance_12 : decode cX5_distance 12 = .ok (.iload_n 1, 1) := by decide +kernel
theorem dX5_distance_13 : decode cX5_distance 13 = .ok (.isub, 1) := by decide +kernel
theorem dX5_distance_14 : decode cX5_distance 14 = .ok (.istore_n 3, 1) := by decide +kernel
theorem dX5_distance_15 : decode cX5_distance 15 = .ok (.iconst 2, 1) := by decide +kernel
theorem dX5_distance_16 : decode cX5_distance 16 = .ok (.aload_n 0, 1) := by decide +kernel
theorem dX5_distance_17 : decode cX5_distance 17 = .ok (.getfield 22, 3) := by decide +kernel
theorem dX5_distance_20 : decode cX5_distance 20 = .ok (.imul, 1) := by decide +kernel
theorem dX5_distance_21 : decode cX5_distance 21 = .ok (.iload_n 3, 1) := by decide +kernel
theorem dX5_distance_22 : decode cX5_distance 22 = .ok (.isub, 1) := by decide +kernel
theorem dX5_distance_23 : decode cX5_distance 23 = .ok (.istore 4, 2) := by decide +kernel
theorem dX5_distance_25 : decode cX5_distance 25 = .ok (.iload_n 3, 1) := by decide +kernel
theorem dX5_distance_26 : decode cX5_distance 26 = .ok (.iload 4, 2) := by decide +kernel
theorem dX5_distance_28 : decode cX5_distance 28 = .ok (.if_icmp .ge 7, 3) := by decide +kernel
theorem dX5_distance_31 : decode cX5_distance 31 = .ok (.iload_n 3, 1) := by decide +kernel
theorem dX5_distance_32 : decode cX5_distance 32 = .ok (.goto 5, 3) := by decide +kernel
theorem dX5_distance_35 : decode cX5_distance 35 = .ok (.iload 4, 2) := by decide +kernel
theorem dX5_distance_37 : decode cX5_distance 37 = .ok (.ireturn, 1) := by decide +kernel
theorem dX5_crossingOfRank_0 : decode cX5_crossingOfRank 0 = .ok (.iconst 0, 1) := by decide +kernel
theorem dX5_crossingOfRank_1 : decode cX5_crossingOfRank 1 = .ok (.istore_n 2, 1) := by decide +kernel
theorem dX5_crossingOfRank_2 : decode cX5_crossingOfRank 2 = .ok (.iload_n 2, 1) := by decide +kernel
theorem dX5_crossingOfRank_3 : decode cX5_crossingOfRank 3 = .ok (.aload_n 0, 1) := by decide +kernel
theorem dX5_crossingOfRank_4 : decode cX5_crossingOfRank 4 = .ok (.getfield 22, 3) := by decide +kernel
theorem dX5_crossingOfRank_7 : decode cX5_crossingOfRank 7 = .ok (.if_icmp .ge 20, 3) := by decide +kernel
theorem dX5_crossingOfRank_10 : decode cX5_crossingOfRank 10 = .ok (.aload_n 0, 1) := by decide +kernel
theorem dX5_crossingOfRank_11 : decode cX5_crossingOfRank 11 = .ok (.iload_n 2, 1) := by decide +kernel
theorem dX5_crossingOfRank_12 : decode cX5_crossingOfRank 12 = .ok (.invokevirtual 56, 3) := by decide +kernel
theorem dX5_crossingOfRank_15 : decode cX5_crossingOfRank 15 = .ok (.iload_n 1, 1) := by decide +kernel
theorem dX5_crossingOfRank_16 : decode cX5_crossingOfRank 16 = .ok (.if_icmp .ne 5, 3) := by decide +kernel
theorem dX5_crossingOfRank_19 : decode cX5_crossingOfRank 19 = .ok (.iload_n 2, 1) := by decide +kernel
theorem dX5_crossingOfRank_20 : decode cX5_crossingOfRank 20 = .ok (.ireturn, 1) := by decide +kernel
theorem dX5_crossingOfRank_21 : decode cX5_crossingOfRank 21 = .ok (.iinc 2 1, 3) := by decide +kernel
theorem dX5_crossingOfRank_24 : decode cX5_crossingOfRank 24 = .ok (.goto (-22), 3) := by decide +kernel
theorem dX5_crossingOfRank_27 : decode cX5_crossingOfRank 27 = .ok (.iconst (-1), 1) := by decide +kernel
theorem dX5_crossingOfRank_28 : decode cX5_crossingOfRank 28 = .ok (.ireturn, 1) := by decide +kernel
theorem dX5_rankOf_0 : decode cX5_rankOf 0 = .ok (.aload_n 0, 1) := by decide +kernel
theorem dX5_rankOf_1 : decode cX5_rankOf 1 = .ok (.aload_n 0, 1) := by decide +kernel
theorem dX5_rankOf_2 : decode cX5_rankOf 2 = .ok (.getfield 9, 3) := by decide +kernel
theorem dX5_rankOf_5 : decode cX5_rankOf 5 = .ok (.iload_n 1, 1) := by decide +kernel
theorem dX5_rankOf_6 : decode cX5_rankOf 6 = .ok (.iaload, 1) := by decide +kernel
theorem dX5_rankOf_7 : decode cX5_rankOf 7 = .ok (.aload_n 0, 1) := by decide +kernel
theorem dX5_rankOf_8 : decode cX5_rankOf 8 = .ok (.getfield 15, 3) := by decide +kernel
theorem dX5_rankOf_11 : decode cX5_rankOf 11 = .ok (.iload_n 1, 1) := by decide +kernel
theorem dX5_rankOf_12 : decode cX5_rankOf 12 = .ok (.iaload, 1) := by decide +kernel
theorem dX5_rankOf_13 : decode cX5_rankOf 13 = .ok (.invokevirtual 52, 3) := by decide +kernel
theorem dX5_rankOf_16 : decode cX5_rankOf 16 = .ok (.istore_n 2, 1) := by decide +kernel
theorem dX5_rankOf_17 : decode cX5_rankOf 17 = .ok (.iconst 0, 1) := by decide +kernel
theorem dX5_rankOf_18 : decode cX5_rankOf 18 = .ok (.istore_n 3, 1) := by decide +kernel
theorem dX5_rankOf_19 : decode cX5_rankOf 19 = .ok (.iconst 0, 1) := by decide +kernel
theorem dX5_rankOf_20 : decode cX5_rankOf 20 = .ok (.istore 4, 2) := by decide +kernel
theorem dX5_rankOf_22 : decode cX5_rankOf 22 = .ok (.iload 4, 2) := by decide +kernel
theorem dX5_rankOf_24 : decode cX5_rankOf 24 = .ok (.aload_n 0, 1) := by decide +kernel
theorem dX5_rankOf_25 : decode cX5_rankOf 25 = .ok (.getfield 22, 3) := by decide +kernel
theorem dX5_rankOf_28 : decode cX5_rankOf 28 = .ok (.if_icmp .ge 50, 3) := by decide +kernel
theorem dX5_rankOf_31 : decode cX5_rankOf 31 = .ok (.aload_n 0, 1) := by decide +kernel
theorem dX5_rankOf_32 : decode cX5_rankOf 32 = .ok (.aload_n 0, 1) := by decide +kernel
theorem dX5_rankOf_33 : decode cX5_rankOf 33 = .ok (.getfield 9, 3) := by decide +kernel
theorem dX5_rankOf_36 : decode cX5_rankOf 36 = .ok (.iload 4, 2) := by decide +kernel
theorem dX5_rankOf_38 : decode cX5_rankOf 38 = .ok (.iaload, 1) := by decide +kernel
theorem dX5_rankOf_39 : decode cX5_rankOf 39 = .ok (.aload_n 0, 1) := by decide +kernel
theorem dX5_rankOf_40 : decode cX5_rankOf 40 = .ok (.getfield 15, 3) := by decide +kernel
theorem dX5_rankOf_43 : decode cX5_rankOf 43 = .ok (.iload 4, 2) := by decide +kernel
theorem dX5_rankOf_45 : decode cX5_rankOf 45 = .ok (.iaload, 1) := by decide +kernel
theorem dX5_rankOf_46 : decode cX5_rankOf 46 = .ok (.invokevirtual 52, 3) := by decide +kernel
theorem dX5_rankOf_49 : decode cX5_rankOf 49 = .ok (.istore 5, 2) := by decide +kernel
theorem dX5_rankOf_51 : decode cX5_rankOf 51 = .ok (.iload 5, 2) := by decide +kernel
theorem dX5_rankOf_53 : decode cX5_rankOf 53 = .ok (.iload_n 2, 1) := by decide +kernel
theorem dX5_rankOf_54 : decode cX5_rankOf 54 = .ok (.if_icmp .lt 15, 3) := by decide +kernel
theorem dX5_rankOf_57 : decode cX5_rankOf 57 = .ok (.iload 5, 2) := by decide +kernel
theorem dX5_rankOf_59 : decode cX5_rankOf 59 = .ok (.iload_n 2, 1) := by decide +kernel
theorem dX5_rankOf_60 : decode cX5_rankOf 60 = .ok (.if_icmp .ne 12, 3) := by decide +kernel
theorem dX5_rankOf_63 : decode cX5_rankOf 63 = .ok (.iload 4, 2) := by decide +kernel
theorem dX5_rankOf_65 : decode cX5_rankOf 65 = .ok (.iload_n 1, 1) := by decide +kernel
theorem dX5_rankOf_66 : decode cX5_rankOf 66 = .ok (.if_icmp .ge 6, 3) := by decide +kernel
theorem dX5_rankOf_69 : decode cX5_rankOf 69 = .ok (.iinc 3 1, 3) := by decide +kernel
theorem dX5_rankOf_72 : decode cX5_rankOf 72 = .ok (.iinc 4 1, 3) := by decide +kernel
theorem dX5_rankOf_75 : decode cX5_rankOf 75 = .ok (.goto (-53), 3) := by decide +kernel
theorem dX5_rankOf_78 : decode cX5_rankOf 78 = .ok (.iload_n 3, 1) := by decide +kernel
theorem dX5_rankOf_79 : decode cX5_rankOf 79 = .ok (.ireturn, 1) := by decide +kernel
theorem dX5_putCurl_0 : decode cX5_putCurl 0 = .ok (.aload_n 0, 1) := by decide +kernel
theorem dX5_putCurl_1 : decode cX5_putCurl 1 = .ok (.iload_n 1, 1) := by decide +kernel
theorem dX5_putCurl_2 : decode cX5_putCurl 2 = .ok (.invokevirtual 59, 3) := by decide +kernel
theorem dX5_putCurl_5 : decode cX5_putCurl 5 = .ok (.ifCond .ne 7, 3) := by decide +kernel
theorem dX5_putCurl_8 : decode cX5_putCurl 8 = .ok (.getstatic 62, 3) := by decide +kernel
theorem dX5_putCurl_11 : decode cX5_putCurl 11 = .ok (.areturn, 1) := by decide +kernel
theorem dX5_putCurl_12 : decode cX5_putCurl 12 = .ok (.aload_n 0, 1) := by decide +kernel
theorem dX5_putCurl_13 : decode cX5_putCurl 13 = .ok (.getfield 22, 3) := by decide +kernel
theorem dX5_putCurl_16 : decode cX5_putCurl 16 = .ok (.bipush 6, 2) := by decide +kernel
theorem dX5_putCurl_18 : decode cX5_putCurl 18 = .ok (.if_icmp .le 7, 3) := by decide +kernel
theorem dX5_putCurl_21 : decode cX5_putCurl 21 = .ok (.getstatic 68, 3) := by decide +kernel
theorem dX5_putCurl_24 : decode cX5_putCurl 24 = .ok (.areturn, 1) := by decide +kernel
theorem dX5_putCurl_25 : decode cX5_putCurl 25 = .ok (.aload_n 0, 1) := by decide +kernel
theorem dX5_putCurl_26 : decode cX5_putCurl 26 = .ok (.iload_n 1, 1) := by decide +kernel
theorem dX5_putCurl_27 : decode cX5_putCurl 27 = .ok (.invokevirtual 71, 3) := by decide +kernel
theorem dX5_putCurl_30 : decode cX5_putCurl 30 = .ok (.aload_n 0, 1) := by decide +kernel
theorem dX5_putCurl_31 : decode cX5_putCurl 31 = .ok (.iload_n 3, 1) := by decide +kernel
theorem dX5_putCurl_32 : decode cX5_putCurl 32 = .ok (.ifCond .eq 7, 3) := by decide +kernel
theorem dX5_putCurl_35 : decode cX5_putCurl 35 = .ok (.iload_n 1, 1) := by decide +kernel
theorem dX5_putCurl_36 : decode cX5_putCurl 36 = .ok (.goto 6, 3) := by decide +kernel
theorem dX5_putCurl_39 : decode cX5_putCurl 39 = .ok (.iload_n 1, 1) := by decide +kernel
theorem dX5_putCurl_40 : decode cX5_putCurl 40 = .ok (.iconst 1, 1) := by decide +kernel
theorem dX5_putCurl_41 : decode cX5_putCurl 41 = .ok (.iadd, 1) := by decide +kernel
theorem dX5_putCurl_42 : decode cX5_putCurl 42 = .ok (.iload_n 3, 1) := by decide +kernel
theorem dX5_putCurl_43 : decode cX5_putCurl 43 = .ok (.ifCond .eq 9, 3) := by decide +kernel
theorem dX5_putCurl_46 : decode cX5_putCurl 46 = .ok (.iload_n 1, 1) := by decide +kernel
theorem dX5_putCurl_47 : decode cX5_putCurl 47 = .ok (.iconst 1, 1) := by decide +kernel
theorem dX5_putCurl_48 : decode cX5_putCurl 48 = .ok (.iadd, 1) := by decide +kernel
theorem dX5_putCurl_49 : decode cX5_putCurl 49 = .ok (.goto 4, 3) := by decide +kernel
theorem dX5_putCurl_52 : decode cX5_putCurl 52 = .ok (.iload_n 1, 1) := by decide +kernel
theorem dX5_putCurl_53 : decode cX5_putCurl 53 = .ok (.iload_n 2, 1) := by decide +kernel
theorem dX5_putCurl_54 : decode cX5_putCurl 54 = .ok (.invokevirtual 74, 3) := by decide +kernel
theorem dX5_putCurl_57 : decode cX5_putCurl 57 = .ok (.getstatic 78, 3) := by decide +kernel
theorem dX5_putCurl_60 : decode cX5_putCurl 60 = .ok (.areturn, 1) := by decide +kernel
theorem dX5_putPoke_0 : decode cX5_putPoke 0 = .ok (.aload_n 0, 1) := by decide +kernel
theorem dX5_putPoke_1 : decode cX5_putPoke 1 = .ok (.iload_n 1, 1) := by decide +kernel
theorem dX5_putPoke_2 : decode cX5_putPoke 2 = .ok (.invokevirtual 59, 3) := by decide +kernel
theorem dX5_putPoke_5 : decode cX5_putPoke 5 = .ok (.ifCond .eq 11, 3) := by decide +kernel
theorem dX5_putPoke_8 : decode cX5_putPoke 8 = .ok (.aload_n 0, 1) := by decide +kernel
theorem dX5_putPoke_9 : decode cX5_putPoke 9 = .ok (.iload_n 2, 1) := by decide +kernel
theorem dX5_putPoke_10 : decode cX5_putPoke 10 = .ok (.invokevirtual 59, 3) := by decide +kernel
theorem dX5_putPoke_13 : decode cX5_putPoke 13 = .ok (.ifCond .ne 7, 3) := by decide +kernel
theorem dX5_putPoke_16 : decode cX5_putPoke 16 = .ok (.getstatic 62, 3) := by decide +kernel
theorem dX5_putPoke_19 : decode cX5_putPoke 19 = .ok (.areturn, 1) := by decide +kernel
theorem dX5_putPoke_20 : decode cX5_putPoke 20 = .ok (.aload_n 0, 1) := by decide +kernel
theorem dX5_putPoke_21 : decode cX5_putPoke 21 = .ok (.getfield 22, 3) := by decide +kernel
theorem dX5_putPoke_24 : decode cX5_putPoke 24 = .ok (.iconst 5, 1) := by decide +kernel
theorem dX5_putPoke_25 : decode cX5_putPoke 25 = .ok (.if_icmp .le 7, 3) := by decide +kernel
theorem dX5_putPoke_28 : decode cX5_putPoke 28 = .ok (.getstatic 68, 3) := by decide +kernel
theorem dX5_putPoke_31 : decode cX5_putPoke 31 = .ok (.areturn, 1) := by decide +kernel
theorem dX5_putPoke_32 : decode cX5_putPoke 32 = .ok (.aload_n 0, 1) := by decide +kernel
theorem dX5_putPoke_33 : decode cX5_putPoke 33 = .ok (.iload_n 1, 1) := by decide +kernel
theorem dX5_putPoke_34 : decode cX5_putPoke 34 = .ok (.iload_n 2, 1) := by decide +kernel
theorem dX5_putPoke_35 : decode cX5_putPoke 35 = .ok (.invokestatic 81, 3) := by decide +kernel
theorem dX5_putPoke_38 : decode cX5_putPoke 38 = .ok (.invokevirtual 71, 3) := by decide +kernel
theorem dX5_putPoke_41 : decode cX5_putPoke 41 = .ok (.aload_n 0, 1) := by decide +kernel
theorem dX5_putPoke_42 : decode cX5_putPoke 42 = .ok (.iload_n 1, 1) := by decide +kernel
theorem dX5_putPoke_43 : decode cX5_putPoke 43 = .ok (.iload_n 2, 1) := by decide +kernel
theorem dX5_putPoke_44 : decode cX5_putPoke 44 = .ok (.invokestatic 86, 3) := by decide +kernel
theorem dX5_putPoke_47 : decode cX5_putPoke 47 = .ok (.invokevirtual 71, 3) := by decide +kernel
theorem dX5_putPoke_50 : decode cX5_putPoke 50 = .ok (.iload_n 1, 1) := by decide +kernel
theorem dX5_putPoke_51 : decode cX5_putPoke 51 = .ok (.iload_n 2, 1) := by decide +kernel
theorem dX5_putPoke_52 : decode cX5_putPoke 52 = .ok (.if_icmp .le 9, 3) := by decide +kernel
theorem dX5_putPoke_55 : decode cX5_putPoke 55 = .ok (.iload_n 1, 1) := by decide +kernel
theorem dX5_putPoke_56 : decode cX5_putPoke 56 = .ok (.iconst 2, 1) := by decide +kernel
theorem dX5_putPoke_57 : decode cX5_putPoke 57 = .ok (.iadd, 1) := by decide +kernel
theorem dX5_putPoke_58 : decode cX5_putPoke 58 = .ok (.goto 4, 3) := by decide +kernel
theorem dX5_putPoke_61 : decode cX5_putPoke 61 = .ok (.iload_n 1, 1) := by decide +kernel
theorem dX5_putPoke_62 : decode cX5_putPoke 62 = .ok (.istore 5, 2) := by decide +kernel
theorem dX5_putPoke_64 : decode cX5_putPoke 64 = .ok (.iload_n 1, 1) := by decide +kernel
theorem dX5_putPoke_65 : decode cX5_putPoke 65 = .ok (.iload_n 2, 1) := by decide +kernel
theorem dX5_putPoke_66 : decode cX5_putPoke 66 = .ok (.if_icmp .le 7, 3) := by decide +kernel
theorem dX5_putPoke_69 : decode cX5_putPoke 69 = .ok (.iload_n 2, 1) := by decide +kernel
theorem dX5_putPoke_70 : decode cX5_putPoke 70 = .ok (.goto 6, 3) := by decide +kernel
theorem dX5_putPoke_73 : decode cX5_putPoke 73 = .ok (.iload_n 2, 1) := by decide +kernel
theorem dX5_putPoke_74 : decode cX5_putPoke 74 = .ok (.iconst 2, 1) := by decide +kernel
theorem dX5_putPoke_75 : decode cX5_putPoke 75 = .ok (.iadd, 1) := by decide +kernel
theorem dX5_putPoke_76 : decode cX5_putPoke 76 = .ok (.istore 6, 2) := by decide +kernel
theorem dX5_putPoke_78 : decode cX5_putPoke 78 = .ok (.aload_n 0, 1) := by decide +kernel
theorem dX5_putPoke_79 : decode cX5_putPoke 79 = .ok (.iload 5, 2) := by decide +kernel
theorem dX5_putPoke_81 : decode cX5_putPoke 81 = .ok (.iload_n 3, 1) := by decide +kernel
theorem dX5_putPoke_82 : decode cX5_putPoke 82 = .ok (.ifCond .eq 8, 3) := by decide +kernel
theorem dX5_putPoke_85 : decode cX5_putPoke 85 = .ok (.iload 6, 2) := by decide +kernel
theorem dX5_putPoke_87 : decode cX5_putPoke 87 = .ok (.goto 7, 3) := by decide +kernel
theorem dX5_putPoke_90 : decode cX5_putPoke 90 = .ok (.iload 6, 2) := by decide +kernel
theorem dX5_putPoke_92 : decode cX5_putPoke 92 = .ok (.iconst 1, 1) := by decide +kernel
theorem dX5_putPoke_93 : decode cX5_putPoke 93 = .ok (.iadd, 1) := by decide +kernel
theorem dX5_putPoke_94 : decode cX5_putPoke 94 = .ok (.iload 4, 2) := by decide +kernel
theorem dX5_putPoke_96 : decode cX5_putPoke 96 = .ok (.invokevirtual 74, 3) := by decide +kernel
theorem dX5_putPoke_99 : decode cX5_putPoke 99 = .ok (.aload_n 0, 1) := by decide +kernel
theorem dX5_putPoke_100 : decode cX5_putPoke 100 = .ok (.iload 5, 2) := by decide +kernel
theorem dX5_putPoke_102 : decode cX5_putPoke 102 = .ok (.iconst 1, 1) := by decide +kernel
theorem dX5_putPoke_103 : decode cX5_putPoke 103 = .ok (.iadd, 1) := by decide +kernel
theorem dX5_putPoke_104 : decode cX5_putPoke 104 = .ok (.iload_n 3, 1) := by decide +kernel
theorem dX5_putPoke_105 : decode cX5_putPoke 105 = .ok (.ifCond .eq 10, 3) := by decide +kernel
theorem dX5_putPoke_108 : decode cX5_putPoke 108 = .ok (.iload 6, 2) := by decide +kernel
theorem dX5_putPoke_110 : decode cX5_putPoke 110 = .ok (.iconst 1, 1) := by decide +kernel
theorem dX5_putPoke_111 : decode cX5_putPoke 111 = .ok (.iadd, 1) := by decide +kernel
theorem dX5_putPoke_112 : decode cX5_putPoke 112 = .ok (.goto 5, 3) := by decide +kernel
theorem dX5_putPoke_115 : decode cX5_putPoke 115 = .ok (.iload 6, 2) := by decide +kernel
theorem dX5_putPoke_117 : decode cX5_putPoke 117 = .ok (.iload 4, 2) := by decide +kernel
theorem dX5_putPoke_119 : decode cX5_putPoke 119 = .ok (.ifCond .ne 7, 3) := by decide +kernel
theorem dX5_putPoke_122 : decode cX5_putPoke 122 = .ok (.iconst 1, 1) := by decide +kernel
theorem dX5_putPoke_123 : decode cX5_putPoke 123 = .ok (.goto 4, 3) := by decide +kernel
theorem dX5_putPoke_126 : decode cX5_putPoke 126 = .ok (.iconst 0, 1) := by decide +kernel
theorem dX5_putPoke_127 : decode cX5_putPoke 127 = .ok (.invokevirtual 74, 3) := by decide +kernel
theorem dX5_putPoke_130 : decode cX5_putPoke 130 = .ok (.getstatic 78, 3) := by decide +kernel
theorem dX5_putPoke_133 : decode cX5_putPoke 133 = .ok (.areturn, 1) := by decide +kernel
theorem dX5_widen_0 : decode cX5_widen 0 = .ok (.iconst 0, 1) := by decide +kernel
theorem dX5_widen_1 : decode cX5_widen 1 = .ok (.istore_n 2, 1) := by decide +kernel
theorem dX5_widen_2 : decode cX5_widen 2 = .ok (.iload_n 2, 1) := by decide +kernel
theorem dX5_widen_3 : decode cX5_widen 3 = .ok (.aload_n 0, 1) := by decide +kernel
theorem dX5_widen_4 : decode cX5_widen 4 = .ok (.getfield 22, 3) := by decide +kernel
theorem dX5_widen_7 : decode cX5_widen 7 = .ok (.if_icmp .ge 57, 3) := by decide +kernel
theorem dX5_widen_10 : decode cX5_widen 10 = .ok (.aload_n 0, 1) := by decide +kernel
theorem dX5_widen_11 : decode cX5_widen 11 = .ok (.getfield 9, 3) := by decide +kernel
theorem dX5_widen_14 : decode cX5_widen 14 = .ok (.iload_n 2, 1) := by decide +kernel
theorem dX5_widen_15 : decode cX5_widen 15 = .ok (.dup2, 1) := by decide +kernel
theorem dX5_widen_16 : decode cX5_widen 16 = .ok (.iaload, 1) := by decide +kernel
theorem dX5_widen_17 : decode cX5_widen 17 = .ok (.aload_n 0, 1) := by decide +kernel
theorem dX5_widen_18 : decode cX5_widen 18 = .ok (.getfield 9, 3) := by decide +kernel
theorem dX5_widen_21 : decode cX5_widen 21 = .ok (.iload_n 2, 1) := by decide +kernel
theorem dX5_widen_22 : decode cX5_widen 22 = .ok (.iaload, 1) := by decide +kernel
theorem dX5_widen_23 : decode cX5_widen 23 = .ok (.iload_n 1, 1) := by decide +kernel
theorem dX5_widen_24 : decode cX5_widen 24 = .ok (.if_icmp .lt 7, 3) := by decide +kernel
theorem dX5_widen_27 : decode cX5_widen 27 = .ok (.iconst 2, 1) := by decide +kernel
theorem dX5_widen_28 : decode cX5_widen 28 = .ok (.goto 4, 3) := by decide +kernel
theorem dX5_widen_31 : decode cX5_widen 31 = .ok (.iconst 0, 1) := by decide +kernel
theorem dX5_widen_32 : decode cX5_widen 32 = .ok (.iadd, 1) := by decide +kernel
theorem dX5_widen_33 : decode cX5_widen 33 = .ok (.iastore, 1) := by decide +kernel
theorem dX5_widen_34 : decode cX5_widen 34 = .ok (.aload_n 0, 1) := by decide +kernel
theorem dX5_widen_35 : decode cX5_widen 35 = .ok (.getfield 15, 3) := by decide +kernel
theorem dX5_widen_38 : decode cX5_widen 38 = .ok (.iload_n 2, 1) := by decide +kernel
theorem dX5_widen_39 : decode cX5_widen 39 = .ok (.dup2, 1) := by decide +kernel
theorem dX5_widen_40 : decode cX5_widen 40 = .ok (.iaload, 1) := by decide +kernel
theorem dX5_widen_41 : decode cX5_widen 41 = .ok (.aload_n 0, 1) := by decide +kernel
theorem dX5_widen_42 : decode cX5_widen 42 = .ok (.getfield 15, 3) := by decide +kernel
theorem dX5_widen_45 : decode cX5_widen 45 = .ok (.iload_n 2, 1) := by decide +kernel
theorem dX5_widen_46 : decode cX5_widen 46 = .ok (.iaload, 1) := by decide +kernel
theorem dX5_widen_47 : decode cX5_widen 47 = .ok (.iload_n 1, 1) := by decide +kernel
theorem dX5_widen_48 : decode cX5_widen 48 = .ok (.if_icmp .lt 7, 3) := by decide +kernel
theorem dX5_widen_51 : decode cX5_widen 51 = .ok (.iconst 2, 1) := by decide +kernel
theorem dX5_widen_52 : decode cX5_widen 52 = .ok (.goto 4, 3) := by decide +kernel
theorem dX5_widen_55 : decode cX5_widen 55 = .ok (.iconst 0, 1) := by decide +kernel
theorem dX5_widen_56 : decode cX5_widen 56 = .ok (.iadd, 1) := by decide +kernel
theorem dX5_widen_57 : decode cX5_widen 57 = .ok (.iastore, 1) := by decide +kernel
theorem dX5_widen_58 : decode cX5_widen 58 = .ok (.iinc 2 1, 3) := by decide +kernel
theorem dX5_widen_61 : decode cX5_widen 61 = .ok (.goto (-59), 3) := by decide +kernel
theorem dX5_widen_64 : decode cX5_widen 64 = .ok (.return_, 1) := by decide +kernel
theorem dX5_append_0 : decode cX5_append 0 = .ok (.aload_n 0, 1) := by decide +kernel
theorem dX5_append_1 : decode cX5_append 1 = .ok (.getfield 9, 3) := by decide +kernel
theorem dX5_append_4 : decode cX5_append 4 = .ok (.aload_n 0, 1) := by decide +kernel
theorem dX5_append_5 : decode cX5_append 5 = .ok (.getfield 22, 3) := by decide +kernel
theorem dX5_append_8 : decode cX5_append 8 = .ok (.iload_n 1, 1) := by decide +kernel
theorem dX5_append_9 : decode cX5_append 9 = .ok (.iastore, 1) := by decide +kernel
theorem dX5_append_10 : decode cX5_append 10 = .ok (.aload_n 0, 1) := by decide +kernel
theorem dX5_append_11 : decode cX5_append 11 = .ok (.getfield 15, 3) := by decide +kernel
theorem dX5_append_14 : decode cX5_append 14 = .ok (.aload_n 0, 1) := by decide +kernel
theorem dX5_append_15 : decode cX5_append 15 = .ok (.getfield 22, 3) := by decide +kernel
theorem dX5_append_18 : decode cX5_append 18 = .ok (.iload_n 2, 1) := by decide +kernel
theorem dX5_append_19 : decode cX5_append 19 = .ok (.iastore, 1) := by decide +kernel
theorem dX5_append_20 : decode cX5_append 20 = .ok (.aload_n 0, 1) := by decide +kernel
theorem dX5_append_21 : decode cX5_append 21 = .ok (.getfield 18, 3) := by decide +kernel
theorem dX5_append_24 : decode cX5_append 24 = .ok (.aload_n 0, 1) := by decide +kernel
theorem dX5_append_25 : decode cX5_append 25 = .ok (.getfield 22, 3) := by decide +kernel
theorem dX5_append_28 : decode cX5_append 28 = .ok (.iload_n 3, 1) := by decide +kernel
theorem dX5_append_29 : decode cX5_append 29 = .ok (.bastore, 1) := by decide +kernel
theorem dX5_append_30 : decode cX5_append 30 = .ok (.aload_n 0, 1) := by decide +kernel
theorem dX5_append_31 : decode cX5_append 31 = .ok (.dup, 1) := by decide +kernel
theorem dX5_append_32 : decode cX5_append 32 = .ok (.getfield 22, 3) := by decide +kernel
theorem dX5_append_35 : decode cX5_append 35 = .ok (.iconst 1, 1) := by decide +kernel
theorem dX5_append_36 : decode cX5_append 36 = .ok (.iadd, 1) := by decide +kernel
theorem dX5_append_37 : decode cX5_append 37 = .ok (.putfield 22, 3) := by decide +kernel
theorem dX5_append_40 : decode cX5_append 40 = .ok (.return_, 1) := by decide +kernel
theorem dX5_takeCurl_0 : decode cX5_takeCurl 0 = .ok (.aload_n 0, 1) := by decide +kernel
theorem dX5_takeCurl_1 : decode cX5_takeCurl 1 = .ok (.iload_n 1, 1) := by decide +kernel
theorem dX5_takeCurl_2 : decode cX5_takeCurl 2 = .ok (.invokevirtual 42, 3) := by decide +kernel
theorem dX5_takeCurl_5 : decode cX5_takeCurl 5 = .ok (.ifCond .ne 7, 3) := by decide +kernel
theorem dX5_takeCurl_8 : decode cX5_takeCurl 8 = .ok (.getstatic 62, 3) := by decide +kernel
theorem dX5_takeCurl_11 : decode cX5_takeCurl 11 = .ok (.areturn, 1) := by decide +kernel
theorem dX5_takeCurl_12 : decode cX5_takeCurl 12 = .ok (.aload_n 0, 1) := by decide +kernel
theorem dX5_takeCurl_13 : decode cX5_takeCurl 13 = .ok (.iload_n 1, 1) := by decide +kernel
theorem dX5_takeCurl_14 : decode cX5_takeCurl 14 = .ok (.invokevirtual 89, 3) := by decide +kernel
theorem dX5_takeCurl_17 : decode cX5_takeCurl 17 = .ok (.ifCond .ne 7, 3) := by decide +kernel
theorem dX5_takeCurl_20 : decode cX5_takeCurl 20 = .ok (.getstatic 92, 3) := by decide +kernel
theorem dX5_takeCurl_23 : decode cX5_takeCurl 23 = .ok (.areturn, 1) := by decide +kernel
theorem dX5_takeCurl_24 : decode cX5_takeCurl 24 = .ok (.aload_n 0, 1) := by decide +kernel
theorem dX5_takeCurl_25 : decode cX5_takeCurl 25 = .ok (.iload_n 1, 1) := by decide +kernel
theorem dX5_takeCurl_26 : decode cX5_takeCurl 26 = .ok (.invokevirtual 95, 3) := by decide +kernel
theorem dX5_takeCurl_29 : decode cX5_takeCurl 29 = .ok (.getstatic 78, 3) := by decide +kernel
theorem dX5_takeCurl_32 : decode cX5_takeCurl 32 = .ok (.areturn, 1) := by decide +kernel
theorem dX5_takePoke_0 : decode cX5_takePoke 0 = .ok (.aload_n 0, 1) := by decide +kernel
theorem dX5_takePoke_1 : decode cX5_takePoke 1 = .ok (.iload_n 1, 1) := by decide +kernel
theorem dX5_takePoke_2 : decode cX5_takePoke 2 = .ok (.invokevirtual 42, 3) := by decide +kernel
theorem dX5_takePoke_5 : decode cX5_takePoke 5 = .ok (.ifCond .eq 11, 3) := by decide +kernel
theorem dX5_takePoke_8 : decode cX5_takePoke 8 = .ok (.aload_n 0, 1) := by decide +kernel
theorem dX5_takePoke_9 : decode cX5_takePoke 9 = .ok (.iload_n 2, 1) := by decide +kernel
theorem dX5_takePoke_10 : decode cX5_takePoke 10 = .ok (.invokevirtual 42, 3) := by decide +kernel
theorem dX5_takePoke_13 : decode cX5_takePoke 13 = .ok (.ifCond .ne 7, 3) := by decide +kernel
theorem dX5_takePoke_16 : decode cX5_takePoke 16 = .ok (.getstatic 62, 3) := by decide +kernel
theorem dX5_takePoke_19 : decode cX5_takePoke 19 = .ok (.areturn, 1) := by decide +kernel
theorem dX5_takePoke_20 : decode cX5_takePoke 20 = .ok (.aload_n 0, 1) := by decide +kernel
theorem dX5_takePoke_21 : decode cX5_takePoke 21 = .ok (.iload_n 1, 1) := by decide +kernel
theorem dX5_takePoke_22 : decode cX5_takePoke 22 = .ok (.iload_n 2, 1) := by decide +kernel
theorem dX5_takePoke_23 : decode cX5_takePoke 23 = .ok (.invokevirtual 98, 3) := by decide +kernel
theorem dX5_takePoke_26 : decode cX5_takePoke 26 = .ok (.ifCond .ne 7, 3) := by decide +kernel
theorem dX5_takePoke_29 : decode cX5_takePoke 29 = .ok (.getstatic 92, 3) := by decide +kernel
theorem dX5_takePoke_32 : decode cX5_takePoke 32 = .ok (.areturn, 1) := by decide +kernel
theorem dX5_takePoke_33 : decode cX5_takePoke 33 = .ok (.aload_n 0, 1) := by decide +kernel
theorem dX5_takePoke_34 : decode cX5_takePoke 34 = .ok (.iload_n 1, 1) := by decide +kernel
theorem dX5_takePoke_35 : decode cX5_takePoke 35 = .ok (.iload_n 2, 1) := by decide +kernel
theorem dX5_takePoke_36 : decode cX5_takePoke 36 = .ok (.invokestatic 81, 3) := by decide +kernel
theorem dX5_takePoke_39 : decode cX5_takePoke 39 = .ok (.invokevirtual 95, 3) := by decide +kernel
theorem dX5_takePoke_42 : decode cX5_takePoke 42 = .ok (.aload_n 0, 1) := by decide +kernel
theorem dX5_takePoke_43 : decode cX5_takePoke 43 = .ok (.iload_n 1, 1) := by decide +kernel
theorem dX5_takePoke_44 : decode cX5_takePoke 44 = .ok (.iload_n 2, 1) := by decide +kernel
theorem dX5_takePoke_45 : decode cX5_takePoke 45 = .ok (.invokestatic 86, 3) := by decide +kernel
theorem dX5_takePoke_48 : decode cX5_takePoke 48 = .ok (.invokevirtual 95, 3) := by decide +kernel
theorem dX5_takePoke_51 : decode cX5_takePoke 51 = .ok (.getstatic 78, 3) := by decide +kernel
theorem dX5_takePoke_54 : decode cX5_takePoke 54 = .ok (.areturn, 1) := by decide +kernel
theorem dX5_remove_0 : decode cX5_remove 0 = .ok (.aload_n 0, 1) := by decide +kernel
theorem dX5_remove_1 : decode cX5_remove 1 = .ok (.getfield 9, 3) := by decide +kernel
theorem dX5_remove_4 : decode cX5_remove 4 = .ok (.iload_n 1, 1) := by decide +kernel
theorem dX5_remove_5 : decode cX5_remove 5 = .ok (.iaload, 1) := by decide +kernel
theorem dX5_remove_6 : decode cX5_remove 6 = .ok (.istore_n 2, 1) := by decide +kernel
theorem dX5_remove_7 : decode cX5_remove 7 = .ok (.aload_n 0, 1) := by decide +kernel
theorem dX5_remove_8 : decode cX5_remove 8 = .ok (.getfield 15, 3) := by decide +kernel
theorem dX5_remove_11 : decode cX5_remove 11 = .ok (.iload_n 1, 1) := by decide +kernel
theorem dX5_remove_12 : decode cX5_remove 12 = .ok (.iaload, 1) := by decide +kernel
theorem dX5_remove_13 : decode cX5_remove 13 = .ok (.istore_n 3, 1) := by decide +kernel
theorem dX5_remove_14 : decode cX5_remove 14 = .ok (.aload_n 0, 1) := by decide +kernel
theorem dX5_remove_15 : decode cX5_remove 15 = .ok (.dup, 1) := by decide +kernel
theorem dX5_remove_16 : decode cX5_remove 16 = .ok (.getfield 22, 3) := by decide +kernel
theorem dX5_remove_19 : decode cX5_remove 19 = .ok (.iconst 1, 1) := by decide +kernel
theorem dX5_remove_20 : decode cX5_remove 20 = .ok (.isub, 1) := by decide +kernel
theorem dX5_remove_21 : decode cX5_remove 21 = .ok (.putfield 22, 3) := by decide +kernel
theorem dX5_remove_24 : decode cX5_remove 24 = .ok (.iconst 0, 1) := by decide +kernel
theorem dX5_remove_25 : decode cX5_remove 25 = .ok (.istore 4, 2) := by decide +kernel
theorem dX5_remove_27 : decode cX5_remove 27 = .ok (.iload 4, 2) := by decide +kernel
theorem dX5_remove_29 : decode cX5_remove 29 = .ok (.aload_n 0, 1) := by decide +kernel
theorem dX5_remove_30 : decode cX5_remove 30 = .ok (.getfield 22, 3) := by decide +kernel
theorem dX5_remove_33 : decode cX5_remove 33 = .ok (.if_icmp .ge 78, 3) := by decide +kernel
theorem dX5_remove_36 : decode cX5_remove 36 = .ok (.iload 4, 2) := by decide +kernel
theorem dX5_remove_38 : decode cX5_remove 38 = .ok (.iload_n 1, 1) := by decide +kernel
theorem dX5_remove_39 : decode cX5_remove 39 = .ok (.if_icmp .ge 8, 3) := by decide +kernel
theorem dX5_remove_42 : decode cX5_remove 42 = .ok (.iload 4, 2) := by decide +kernel
theorem dX5_remove_44 : decode cX5_remove 44 = .ok (.goto 7, 3) := by decide +kernel
theorem dX5_remove_47 : decode cX5_remove 47 = .ok (.iload 4, 2) := by decide +kernel
theorem dX5_remove_49 : decode cX5_remove 49 = .ok (.iconst 1, 1) := by decide +kernel
theorem dX5_remove_50 : decode cX5_remove 50 = .ok (.iadd, 1) := by decide +kernel
theorem dX5_remove_51 : decode cX5_remove 51 = .ok (.istore 5, 2) := by decide +kernel
theorem dX5_remove_53 : decode cX5_remove 53 = .ok (.aload_n 0, 1) := by decide +kernel
theorem dX5_remove_54 : decode cX5_remove 54 = .ok (.getfield 9, 3) := by decide +kernel
theorem dX5_remove_57 : decode cX5_remove 57 = .ok (.iload 4, 2) := by decide +kernel
theorem dX5_remove_59 : decode cX5_remove 59 = .ok (.aload_n 0, 1) := by decide +kernel
theorem dX5_remove_60 : decode cX5_remove 60 = .ok (.getfield 9, 3) := by decide +kernel
theorem dX5_remove_63 : decode cX5_remove 63 = .ok (.iload 5, 2) := by decide +kernel
theorem dX5_remove_65 : decode cX5_remove 65 = .ok (.iaload, 1) := by decide +kernel
theorem dX5_remove_66 : decode cX5_remove 66 = .ok (.iload_n 2, 1) := by decide +kernel
theorem dX5_remove_67 : decode cX5_remove 67 = .ok (.iload_n 3, 1) := by decide +kernel
theorem dX5_remove_68 : decode cX5_remove 68 = .ok (.invokestatic 101, 3) := by decide +kernel
theorem dX5_remove_71 : decode cX5_remove 71 = .ok (.iastore, 1) := by decide +kernel
theorem dX5_remove_72 : decode cX5_remove 72 = .ok (.aload_n 0, 1) := by decide +kernel
theorem dX5_remove_73 : decode cX5_remove 73 = .ok (.getfield 15, 3) := by decide +kernel
theorem dX5_remove_76 : decode cX5_remove 76 = .ok (.iload 4, 2) := by decide +kernel
theorem dX5_remove_78 : decode cX5_remove 78 = .ok (.aload_n 0, 1) := by decide +kernel
theorem dX5_remove_79 : decode cX5_remove 79 = .ok (.getfield 15, 3) := by decide +kernel
theorem dX5_remove_82 : decode cX5_remove 82 = .ok (.iload 5, 2) := by decide +kernel
theorem dX5_remove_84 : decode cX5_remove 84 = .ok (.iaload, 1) := by decide +kernel
theorem dX5_remove_85 : decode cX5_remove 85 = .ok (.iload_n 2, 1) := by decide +kernel
theorem dX5_remove_86 : decode cX5_remove 86 = .ok (.iload_n 3, 1) := by decide +kernel
theorem dX5_remove_87 : decode cX5_remove 87 = .ok (.invokestatic 101, 3) := by decide +kernel
theorem dX5_remove_90 : decode cX5_remove 90 = .ok (.iastore, 1) := by decide +kernel
theorem dX5_remove_91 : decode cX5_remove 91 = .ok (.aload_n 0, 1) := by decide +kernel
theorem dX5_remove_92 : decode cX5_remove 92 = .ok (.getfield 18, 3) := by decide +kernel
theorem dX5_remove_95 : decode cX5_remove 95 = .ok (.iload 4, 2) := by decide +kernel
theorem dX5_remove_97 : decode cX5_remove 97 = .ok (.aload_n 0, 1) := by decide +kernel
theorem dX5_remove_98 : decode cX5_remove 98 = .ok (.getfield 18, 3) := by decide +kernel
theorem dX5_remove_101 : decode cX5_remove 101 = .ok (.iload 5, 2) := by decide +kernel
theorem dX5_remove_103 : decode cX5_remove 103 = .ok (.baload, 1) := by decide +kernel
theorem dX5_remove_104 : decode cX5_remove 104 = .ok (.bastore, 1) := by decide +kernel
theorem dX5_remove_105 : decode cX5_remove 105 = .ok (.iinc 4 1, 3) := by decide +kernel
theorem dX5_remove_108 : decode cX5_remove 108 = .ok (.goto (-81), 3) := by decide +kernel
theorem dX5_remove_111 : decode cX5_remove 111 = .ok (.return_, 1) := by decide +kernel
theorem dX5_closeGaps_0 : decode cX5_closeGaps 0 = .ok (.iload_n 0, 1) := by decide +kernel
theorem dX5_closeGaps_1 : decode cX5_closeGaps 1 = .ok (.iload_n 0, 1) := by decide +kernel
theorem dX5_closeGaps_2 : decode cX5_closeGaps 2 = .ok (.iload_n 1, 1) := by decide +kernel
theorem dX5_closeGaps_3 : decode cX5_closeGaps 3 = .ok (.if_icmp .le 7, 3) := by decide +kernel
theorem dX5_closeGaps_6 : decode cX5_closeGaps 6 = .ok (.iconst 1, 1) := by decide +kernel
theorem dX5_closeGaps_7 : decode cX5_closeGaps 7 = .ok (.goto 4, 3) := by decide +kernel
theorem dX5_closeGaps_10 : decode cX5_closeGaps 10 = .ok (.iconst 0, 1) := by decide +kernel
theorem dX5_closeGaps_11 : decode cX5_closeGaps 11 = .ok (.isub, 1) := by decide +kernel
theorem dX5_closeGaps_12 : decode cX5_closeGaps 12 = .ok (.iload_n 0, 1) := by decide +kernel
theorem dX5_closeGaps_13 : decode cX5_closeGaps 13 = .ok (.iload_n 2, 1) := by decide +kernel
theorem dX5_closeGaps_14 : decode cX5_closeGaps 14 = .ok (.if_icmp .le 7, 3) := by decide +kernel
theorem dX5_closeGaps_17 : decode cX5_closeGaps 17 = .ok (.iconst 1, 1) := by decide +kernel
theorem dX5_closeGaps_18 : decode cX5_closeGaps 18 = .ok (.goto 4, 3) := by decide +kernel
theorem dX5_closeGaps_21 : decode cX5_closeGaps 21 = .ok (.iconst 0, 1) := by decide +kernel
theorem dX5_closeGaps_22 : decode cX5_closeGaps 22 = .ok (.isub, 1) := by decide +kernel
theorem dX5_closeGaps_23 : decode cX5_closeGaps 23 = .ok (.ireturn, 1) := by decide +kernel
theorem dX5_switchOne_0 : decode cX5_switchOne 0 = .ok (.aload_n 0, 1) := by decide +kernel
theorem dX5_switchOne_1 : decode cX5_switchOne 1 = .ok (.iload_n 1, 1) := by decide +kernel
theorem dX5_switchOne_2 : decode cX5_switchOne 2 = .ok (.invokevirtual 42, 3) := by decide +kernel
theorem dX5_switchOne_5 : decode cX5_switchOne 5 = .ok (.ifCond .ne 7, 3) := by decide +kernel
theorem dX5_switchOne_8 : decode cX5_switchOne 8 = .ok (.getstatic 62, 3) := by decide +kernel
theorem dX5_switchOne_11 : decode cX5_switchOne 11 = .ok (.areturn, 1) := by decide +kernel
theorem dX5_switchOne_12 : decode cX5_switchOne 12 = .ok (.aload_n 0, 1) := by decide +kernel
theorem dX5_switchOne_13 : decode cX5_switchOne 13 = .ok (.iload_n 1, 1) := by decide +kernel
theorem dX5_switchOne_14 : decode cX5_switchOne 14 = .ok (.invokevirtual 34, 3) := by decide +kernel
theorem dX5_switchOne_17 : decode cX5_switchOne 17 = .ok (.getstatic 78, 3) := by decide +kernel
theorem dX5_switchOne_20 : decode cX5_switchOne 20 = .ok (.areturn, 1) := by decide +kernel
theorem dX5_switchAll_0 : decode cX5_switchAll 0 = .ok (.iconst 0, 1) := by decide +kernel
theorem dX5_switchAll_1 : decode cX5_switchAll 1 = .ok (.istore_n 1, 1) := by decide +kernel
theorem dX5_switchAll_2 : decode cX5_switchAll 2 = .ok (.iload_n 1, 1) := by decide +kernel
theorem dX5_switchAll_3 : decode cX5_switchAll 3 = .ok (.aload_n 0, 1) := by decide +kernel
theorem dX5_switchAll_4 : decode cX5_switchAll 4 = .ok (.getfield 22, 3) := by decide +kernel
theorem dX5_switchAll_7 : decode cX5_switchAll 7 = .ok (.if_icmp .ge 14, 3) := by decide +kernel
theorem dX5_switchAll_10 : decode cX5_switchAll 10 = .ok (.aload_n 0, 1) := by decide +kernel
theorem dX5_switchAll_11 : decode cX5_switchAll 11 = .ok (.iload_n 1, 1) := by decide +kernel
theorem dX5_switchAll_12 : decode cX5_switchAll 12 = .ok (.invokevirtual 34, 3) := by decide +kernel
theorem dX5_switchAll_15 : decode cX5_switchAll 15 = .ok (.iinc 1 1, 3) := by decide +kernel
theorem dX5_switchAll_18 : decode cX5_switchAll 18 = .ok (.goto (-16), 3) := by decide +kernel
theorem dX5_switchAll_21 : decode cX5_switchAll 21 = .ok (.getstatic 78, 3) := by decide +kernel
theorem dX5_switchAll_24 : decode cX5_switchAll 24 = .ok (.areturn, 1) := by decide +kernel
theorem dX5_exchange_0 : decode cX5_exchange 0 = .ok (.aload_n 0, 1) := by decide +kernel
theorem dX5_exchange_1 : decode cX5_exchange 1 = .ok (.getfield 9, 3) := by decide +kernel
theorem dX5_exchange_4 : decode cX5_exchange 4 = .ok (.iload_n 1, 1) := by decide +kernel
theorem dX5_exchange_5 : decode cX5_exchange 5 = .ok (.iaload, 1) := by decide +kernel
theorem dX5_exchange_6 : decode cX5_exchange 6 = .ok (.istore_n 2, 1) := by decide +kernel
theorem dX5_exchange_7 : decode cX5_exchange 7 = .ok (.aload_n 0, 1) := by decide +kernel
theorem dX5_exchange_8 : decode cX5_exchange 8 = .ok (.getfield 9, 3) := by decide +kernel
theorem dX5_exchange_11 : decode cX5_exchange 11 = .ok (.iload_n 1, 1) := by decide +kernel
theorem dX5_exchange_12 : decode cX5_exchange 12 = .ok (.aload_n 0, 1) := by decide +kernel
theorem dX5_exchange_13 : decode cX5_exchange 13 = .ok (.getfield 15, 3) := by decide +kernel
theorem dX5_exchange_16 : decode cX5_exchange 16 = .ok (.iload_n 1, 1) := by decide +kernel
theorem dX5_exchange_17 : decode cX5_exchange 17 = .ok (.iaload, 1) := by decide +kernel
theorem dX5_exchange_18 : decode cX5_exchange 18 = .ok (.iastore, 1) := by decide +kernel
theorem dX5_exchange_19 : decode cX5_exchange 19 = .ok (.aload_n 0, 1) := by decide +kernel
theorem dX5_exchange_20 : decode cX5_exchange 20 = .ok (.getfield 15, 3) := by decide +kernel
theorem dX5_exchange_23 : decode cX5_exchange 23 = .ok (.iload_n 1, 1) := by decide +kernel
theorem dX5_exchange_24 : decode cX5_exchange 24 = .ok (.iload_n 2, 1) := by decide +kernel
theorem dX5_exchange_25 : decode cX5_exchange 25 = .ok (.iastore, 1) := by decide +kernel
theorem dX5_exchange_26 : decode cX5_exchange 26 = .ok (.aload_n 0, 1) := by decide +kernel
theorem dX5_exchange_27 : decode cX5_exchange 27 = .ok (.getfield 18, 3) := by decide +kernel
theorem dX5_exchange_30 : decode cX5_exchange 30 = .ok (.iload_n 1, 1) := by decide +kernel
theorem dX5_exchange_31 : decode cX5_exchange 31 = .ok (.aload_n 0, 1) := by decide +kernel
theorem dX5_exchange_32 : decode cX5_exchange 32 = .ok (.getfield 18, 3) := by decide +kernel
theorem dX5_exchange_35 : decode cX5_exchange 35 = .ok (.iload_n 1, 1) := by decide +kernel
theorem dX5_exchange_36 : decode cX5_exchange 36 = .ok (.baload, 1) := by decide +kernel
theorem dX5_exchange_37 : decode cX5_exchange 37 = .ok (.ifCond .ne 7, 3) := by decide +kernel
theorem dX5_exchange_40 : decode cX5_exchange 40 = .ok (.iconst 1, 1) := by decide +kernel
theorem dX5_exchange_41 : decode cX5_exchange 41 = .ok (.goto 4, 3) := by decide +kernel
theorem dX5_exchange_44 : decode cX5_exchange 44 = .ok (.iconst 0, 1) := by decide +kernel
theorem dX5_exchange_45 : decode cX5_exchange 45 = .ok (.bastore, 1) := by decide +kernel
theorem dX5_exchange_46 : decode cX5_exchange 46 = .ok (.return_, 1) := by decide +kernel
theorem dX5_turnBack_0 : decode cX5_turnBack 0 = .ok (.iconst 2, 1) := by decide +kernel
theorem dX5_turnBack_1 : decode cX5_turnBack 1 = .ok (.aload_n 0, 1) := by decide +kernel
theorem dX5_turnBack_2 : decode cX5_turnBack 2 = .ok (.getfield 22, 3) := by decide +kernel
theorem dX5_turnBack_5 : decode cX5_turnBack 5 = .ok (.imul, 1) := by decide +kernel
theorem dX5_turnBack_6 : decode cX5_turnBack 6 = .ok (.iconst 1, 1) := by decide +kernel
theorem dX5_turnBack_7 : decode cX5_turnBack 7 = .ok (.isub, 1) := by decide +kernel
theorem dX5_turnBack_8 : decode cX5_turnBack 8 = .ok (.istore_n 1, 1) := by decide +kernel
theorem dX5_turnBack_9 : decode cX5_turnBack 9 = .ok (.iconst 0, 1) := by decide +kernel
theorem dX5_turnBack_10 : decode cX5_turnBack 10 = .ok (.istore_n 2, 1) := by decide +kernel
theorem dX5_turnBack_11 : decode cX5_turnBack 11 = .ok (.iload_n 2, 1) := by decide +kernel
theorem dX5_turnBack_12 : decode cX5_turnBack 12 = .ok (.aload_n 0, 1) := by decide +kernel
theorem dX5_turnBack_13 : decode cX5_turnBack 13 = .ok (.getfield 22, 3) := by decide +kernel
theorem dX5_turnBack_16 : decode cX5_turnBack 16 = .ok (.if_icmp .ge 37, 3) := by decide +kernel
theorem dX5_turnBack_19 : decode cX5_turnBack 19 = .ok (.aload_n 0, 1) := by decide +kernel
theorem dX5_turnBack_20 : decode cX5_turnBack 20 = .ok (.getfield 9, 3) := by decide +kernel
theorem dX5_turnBack_23 : decode cX5_turnBack 23 = .ok (.iload_n 2, 1) := by decide +kernel
theorem dX5_turnBack_24 : decode cX5_turnBack 24 = .ok (.iload_n 1, 1) := by decide +kernel
theorem dX5_turnBack_25 : decode cX5_turnBack 25 = .ok (.aload_n 0, 1) := by decide +kernel
theorem dX5_turnBack_26 : decode cX5_turnBack 26 = .ok (.getfield 9, 3) := by decide +kernel
theorem dX5_turnBack_29 : decode cX5_turnBack 29 = .ok (.iload_n 2, 1) := by decide +kernel
theorem dX5_turnBack_30 : decode cX5_turnBack 30 = .ok (.iaload, 1) := by decide +kernel
theorem dX5_turnBack_31 : decode cX5_turnBack 31 = .ok (.isub, 1) := by decide +kernel
theorem dX5_turnBack_32 : decode cX5_turnBack 32 = .ok (.iastore, 1) := by decide +kernel
theorem dX5_turnBack_33 : decode cX5_turnBack 33 = .ok (.aload_n 0, 1) := by decide +kernel
theorem dX5_turnBack_34 : decode cX5_turnBack 34 = .ok (.getfield 15, 3) := by decide +kernel
theorem dX5_turnBack_37 : decode cX5_turnBack 37 = .ok (.iload_n 2, 1) := by decide +kernel
theorem dX5_turnBack_38 : decode cX5_turnBack 38 = .ok (.iload_n 1, 1) := by decide +kernel
theorem dX5_turnBack_39 : decode cX5_turnBack 39 = .ok (.aload_n 0, 1) := by decide +kernel
theorem dX5_turnBack_40 : decode cX5_turnBack 40 = .ok (.getfield 15, 3) := by decide +kernel
theorem dX5_turnBack_43 : decode cX5_turnBack 43 = .ok (.iload_n 2, 1) := by decide +kernel
theorem dX5_turnBack_44 : decode cX5_turnBack 44 = .ok (.iaload, 1) := by decide +kernel
theorem dX5_turnBack_45 : decode cX5_turnBack 45 = .ok (.isub, 1) := by decide +kernel
theorem dX5_turnBack_46 : decode cX5_turnBack 46 = .ok (.iastore, 1) := by decide +kernel
theorem dX5_turnBack_47 : decode cX5_turnBack 47 = .ok (.iinc 2 1, 3) := by decide +kernel
theorem dX5_turnBack_50 : decode cX5_turnBack 50 = .ok (.goto (-39), 3) := by decide +kernel
theorem dX5_turnBack_53 : decode cX5_turnBack 53 = .ok (.getstatic 78, 3) := by decide +kernel
theorem dX5_turnBack_56 : decode cX5_turnBack 56 = .ok (.areturn, 1) := by decide +kernel
theorem dX5_turnTo_0 : decode cX5_turnTo 0 = .ok (.aload_n 0, 1) := by decide +kernel
theorem dX5_turnTo_1 : decode cX5_turnTo 1 = .ok (.iload_n 1, 1) := by decide +kernel
theorem dX5_turnTo_2 : decode cX5_turnTo 2 = .ok (.invokevirtual 105, 3) := by decide +kernel
theorem dX5_turnTo_5 : decode cX5_turnTo 5 = .ok (.ifCond .ne 7, 3) := by decide +kernel
theorem dX5_turnTo_8 : decode cX5_turnTo 8 = .ok (.getstatic 62, 3) := by decide +kernel
theorem dX5_turnTo_11 : decode cX5_turnTo 11 = .ok (.areturn, 1) := by decide +kernel
theorem dX5_turnTo_12 : decode cX5_turnTo 12 = .ok (.iconst 0, 1) := by decide +kernel
theorem dX5_turnTo_13 : decode cX5_turnTo 13 = .ok (.istore_n 2, 1) := by decide +kernel
theorem dX5_turnTo_14 : decode cX5_turnTo 14 = .ok (.iload_n 2, 1) := by decide +kernel
theorem dX5_turnTo_15 : decode cX5_turnTo 15 = .ok (.aload_n 0, 1) := by decide +kernel
theorem dX5_turnTo_16 : decode cX5_turnTo 16 = .ok (.getfield 22, 3) := by decide +kernel
theorem dX5_turnTo_19 : decode cX5_turnTo 19 = .ok (.if_icmp .ge 55, 3) := by decide +kernel
theorem dX5_turnTo_22 : decode cX5_turnTo 22 = .ok (.aload_n 0, 1) := by decide +kernel
theorem dX5_turnTo_23 : decode cX5_turnTo 23 = .ok (.getfield 9, 3) := by decide +kernel
theorem dX5_turnTo_26 : decode cX5_turnTo 26 = .ok (.iload_n 2, 1) := by decide +kernel
theorem dX5_turnTo_27 : decode cX5_turnTo 27 = .ok (.aload_n 0, 1) := by decide +kernel
theorem dX5_turnTo_28 : decode cX5_turnTo 28 = .ok (.getfield 9, 3) := by decide +kernel
theorem dX5_turnTo_31 : decode cX5_turnTo 31 = .ok (.iload_n 2, 1) := by decide +kernel
theorem dX5_turnTo_32 : decode cX5_turnTo 32 = .ok (.iaload, 1) := by decide +kernel
theorem dX5_turnTo_33 : decode cX5_turnTo 33 = .ok (.iload_n 1, 1) := by decide +kernel
theorem dX5_turnTo_34 : decode cX5_turnTo 34 = .ok (.isub, 1) := by decide +kernel
theorem dX5_turnTo_35 : decode cX5_turnTo 35 = .ok (.iconst 2, 1) := by decide +kernel
theorem dX5_turnTo_36 : decode cX5_turnTo 36 = .ok (.aload_n 0, 1) := by decide +kernel
theorem dX5_turnTo_37 : decode cX5_turnTo 37 = .ok (.getfield 22, 3) := by decide +kernel
theorem dX5_turnTo_40 : decode cX5_turnTo 40 = .ok (.imul, 1) := by decide +kernel
theorem dX5_turnTo_41 : decode cX5_turnTo 41 = .ok (.invokestatic 108, 3) := by decide +kernel
theorem dX5_turnTo_44 : decode cX5_turnTo 44 = .ok (.iastore, 1) := by decide +kernel
theorem dX5_turnTo_45 : decode cX5_turnTo 45 = .ok (.aload_n 0, 1) := by decide +kernel
theorem dX5_turnTo_46 : decode cX5_turnTo 46 = .ok (.getfield 15, 3) := by decide +kernel
theorem dX5_turnTo_49 : decode cX5_turnTo 49 = .ok (.iload_n 2, 1) := by decide +kernel
theorem dX5_turnTo_50 : decode cX5_turnTo 50 = .ok (.aload_n 0, 1) := by decide +kernel
theorem dX5_turnTo_51 : decode cX5_turnTo 51 = .ok (.getfield 15, 3) := by decide +kernel
theorem dX5_turnTo_54 : decode cX5_turnTo 54 = .ok (.iload_n 2, 1) := by decide +kernel
theorem dX5_turnTo_55 : decode cX5_turnTo 55 = .ok (.iaload, 1) := by decide +kernel
theorem dX5_turnTo_56 : decode cX5_turnTo 56 = .ok (.iload_n 1, 1) := by decide +kernel
theorem dX5_turnTo_57 : decode cX5_turnTo 57 = .ok (.isub, 1) := by decide +kernel
theorem dX5_turnTo_58 : decode cX5_turnTo 58 = .ok (.iconst 2, 1) := by decide +kernel
theorem dX5_turnTo_59 : decode cX5_turnTo 59 = .ok (.aload_n 0, 1) := by decide +kernel
theorem dX5_turnTo_60 : decode cX5_turnTo 60 = .ok (.getfield 22, 3) := by decide +kernel
theorem dX5_turnTo_63 : decode cX5_turnTo 63 = .ok (.imul, 1) := by decide +kernel
theorem dX5_turnTo_64 : decode cX5_turnTo 64 = .ok (.invokestatic 108, 3) := by decide +kernel
theorem dX5_turnTo_67 : decode cX5_turnTo 67 = .ok (.iastore, 1) := by decide +kernel
theorem dX5_turnTo_68 : decode cX5_turnTo 68 = .ok (.iinc 2 1, 3) := by decide +kernel
theorem dX5_turnTo_71 : decode cX5_turnTo 71 = .ok (.goto (-57), 3) := by decide +kernel
theorem dX5_turnTo_74 : decode cX5_turnTo 74 = .ok (.getstatic 78, 3) := by decide +kernel
theorem dX5_turnTo_77 : decode cX5_turnTo 77 = .ok (.areturn, 1) := by decide +kernel
theorem dX5_simplify_0 : decode cX5_simplify 0 = .ok (.iconst 0, 1) := by decide +kernel
theorem dX5_simplify_1 : decode cX5_simplify 1 = .ok (.istore_n 1, 1) := by decide +kernel
theorem dX5_simplify_2 : decode cX5_simplify 2 = .ok (.iload_n 1, 1) := by decide +kernel
theorem dX5_simplify_3 : decode cX5_simplify 3 = .ok (.bipush 7, 2) := by decide +kernel
theorem dX5_simplify_5 : decode cX5_simplify 5 = .ok (.if_icmp .ge 27, 3) := by decide +kernel
theorem dX5_simplify_8 : decode cX5_simplify 8 = .ok (.aload_n 0, 1) := by decide +kernel
theorem dX5_simplify_9 : decode cX5_simplify 9 = .ok (.invokevirtual 111, 3) := by decide +kernel
theorem dX5_simplify_12 : decode cX5_simplify 12 = .ok (.ifCond .ne 14, 3) := by decide +kernel
theorem dX5_simplify_15 : decode cX5_simplify 15 = .ok (.aload_n 0, 1) := by decide +kernel
theorem dX5_simplify_16 : decode cX5_simplify 16 = .ok (.invokevirtual 115, 3) := by decide +kernel
theorem dX5_simplify_19 : decode cX5_simplify 19 = .ok (.ifCond .ne 7, 3) := by decide +kernel
theorem dX5_simplify_22 : decode cX5_simplify 22 = .ok (.getstatic 78, 3) := by decide +kernel
theorem dX5_simplify_25 : decode cX5_simplify 25 = .ok (.areturn, 1) := by decide +kernel
theorem dX5_simplify_26 : decode cX5_simplify 26 = .ok (.iinc 1 1, 3) := by decide +kernel
theorem dX5_simplify_29 : decode cX5_simplify 29 = .ok (.goto (-27), 3) := by decide +kernel
theorem dX5_simplify_32 : decode cX5_simplify 32 = .ok (.getstatic 78, 3) := by decide +kernel
theorem dX5_simplify_35 : decode cX5_simplify 35 = .ok (.areturn, 1) := by decide +kernel
theorem dX5_dropLowestCurl_0 : decode cX5_dropLowestCurl 0 = .ok (.iconst 0, 1) := by decide +kernel
theorem dX5_dropLowestCurl_1 : decode cX5_dropLowestCurl 1 = .ok (.istore_n 1, 1) := by decide +kernel
theorem dX5_dropLowestCurl_2 : decode cX5_dropLowestCurl 2 = .ok (.iload_n 1, 1) := by decide +kernel
theorem dX5_dropLowestCurl_3 : decode cX5_dropLowestCurl 3 = .ok (.aload_n 0, 1) := by decide +kernel
theorem dX5_dropLowestCurl_4 : decode cX5_dropLowestCurl 4 = .ok (.getfield 22, 3) := by decide +kernel
theorem dX5_dropLowestCurl_7 : decode cX5_dropLowestCurl 7 = .ok (.if_icmp .ge 24, 3) := by decide +kernel
theorem dX5_dropLowestCurl_10 : decode cX5_dropLowestCurl 10 = .ok (.aload_n 0, 1) := by decide +kernel
theorem dX5_dropLowestCurl_11 : decode cX5_dropLowestCurl 11 = .ok (.iload_n 1, 1) := by decide +kernel
theorem dX5_dropLowestCurl_12 : decode cX5_dropLowestCurl 12 = .ok (.invokevirtual 89, 3) := by decide +kernel
theorem dX5_dropLowestCurl_15 : decode cX5_dropLowestCurl 15 = .ok (.ifCond .eq 10, 3) := by decide +kernel
theorem dX5_dropLowestCurl_18 : decode cX5_dropLowestCurl 18 = .ok (.aload_n 0, 1) := by decide +kernel
theorem dX5_dropLowestCurl_19 : decode cX5_dropLowestCurl 19 = .ok (.iload_n 1, 1) := by decide +kernel
theorem dX5_dropLowestCurl_20 : decode cX5_dropLowestCurl 20 = .ok (.invokevirtual 95, 3) := by decide +kernel
theorem dX5_dropLowestCurl_23 : decode cX5_dropLowestCurl 23 = .ok (.iconst 1, 1) := by decide +kernel
theorem dX5_dropLowestCurl_24 : decode cX5_dropLowestCurl 24 = .ok (.ireturn, 1) := by decide +kernel
theorem dX5_dropLowestCurl_25 : decode cX5_dropLowestCurl 25 = .ok (.iinc 1 1, 3) := by decide +kernel
theorem dX5_dropLowestCurl_28 : decode cX5_dropLowestCurl 28 = .ok (.goto (-26), 3) := by decide +kernel
theorem dX5_dropLowestCurl_31 : decode cX5_dropLowestCurl 31 = .ok (.iconst 0, 1) := by decide +kernel
theorem dX5_dropLowestCurl_32 : decode cX5_dropLowestCurl 32 = .ok (.ireturn, 1) := by decide +kernel
theorem dX5_dropLowestPoke_0 : decode cX5_dropLowestPoke 0 = .ok (.iconst 0, 1) := by decide +kernel
theorem dX5_dropLowestPoke_1 : decode cX5_dropLowestPoke 1 = .ok (.istore_n 1, 1) := by decide +kernel
theorem dX5_dropLowestPoke_2 : decode cX5_dropLowestPoke 2 = .ok (.iload_n 1, 1) := by decide +kernel
theorem dX5_dropLowestPoke_3 : decode cX5_dropLowestPoke 3 = .ok (.aload_n 0, 1) := by decide +kernel
theorem dX5_dropLowestPoke_4 : decode cX5_dropLowestPoke 4 = .ok (.getfield 22, 3) := by decide +kernel
theorem dX5_dropLowestPoke_7 : decode cX5_dropLowestPoke 7 = .ok (.if_icmp .ge 48, 3) := by decide +kernel
theorem dX5_dropLowestPoke_10 : decode cX5_dropLowestPoke 10 = .ok (.iload_n 1, 1) := by decide +kernel
theorem dX5_dropLowestPoke_11 : decode cX5_dropLowestPoke 11 = .ok (.iconst 1, 1) := by decide +kernel
theorem dX5_dropLowestPoke_12 : decode cX5_dropLowestPoke 12 = .ok (.iadd, 1) := by decide +kernel
theorem dX5_dropLowestPoke_13 : decode cX5_dropLowestPoke 13 = .ok (.istore_n 2, 1) := by decide +kernel
theorem dX5_dropLowestPoke_14 : decode cX5_dropLowestPoke 14 = .ok (.iload_n 2, 1) := by decide +kernel
theorem dX5_dropLowestPoke_15 : decode cX5_dropLowestPoke 15 = .ok (.aload_n 0, 1) := by decide +kernel
theorem dX5_dropLowestPoke_16 : decode cX5_dropLowestPoke 16 = .ok (.getfield 22, 3) := by decide +kernel
theorem dX5_dropLowestPoke_19 : decode cX5_dropLowestPoke 19 = .ok (.if_icmp .ge 30, 3) := by decide +kernel
theorem dX5_dropLowestPoke_22 : decode cX5_dropLowestPoke 22 = .ok (.aload_n 0, 1) := by decide +kernel
theorem dX5_dropLowestPoke_23 : decode cX5_dropLowestPoke 23 = .ok (.iload_n 1, 1) := by decide +kernel
theorem dX5_dropLowestPoke_24 : decode cX5_dropLowestPoke 24 = .ok (.iload_n 2, 1) := by decide +kernel
theorem dX5_dropLowestPoke_25 : decode cX5_dropLowestPoke 25 = .ok (.invokevirtual 98, 3) := by decide +kernel
theorem dX5_dropLowestPoke_28 : decode cX5_dropLowestPoke 28 = .ok (.ifCond .eq 15, 3) := by decide +kernel
theorem dX5_dropLowestPoke_31 : decode cX5_dropLowestPoke 31 = .ok (.aload_n 0, 1) := by decide +kernel
theorem dX5_dropLowestPoke_32 : decode cX5_dropLowestPoke 32 = .ok (.iload_n 2, 1) := by decide +kernel
theorem dX5_dropLowestPoke_33 : decode cX5_dropLowestPoke 33 = .ok (.invokevirtual 95, 3) := by decide +kernel
theorem dX5_dropLowestPoke_36 : decode cX5_dropLowestPoke 36 = .ok (.aload_n 0, 1) := by decide +kernel
theorem dX5_dropLowestPoke_37 : decode cX5_dropLowestPoke 37 = .ok (.iload_n 1, 1) := by decide +kernel
theorem dX5_dropLowestPoke_38 : decode cX5_dropLowestPoke 38 = .ok (.invokevirtual 95, 3) := by decide +kernel
theorem dX5_dropLowestPoke_41 : decode cX5_dropLowestPoke 41 = .ok (.iconst 1, 1) := by decide +kernel
theorem dX5_dropLowestPoke_42 : decode cX5_dropLowestPoke 42 = .ok (.ireturn, 1) := by decide +kernel
theorem dX5_dropLowestPoke_43 : decode cX5_dropLowestPoke 43 = .ok (.iinc 2 1, 3) := by decide +kernel
theorem dX5_dropLowestPoke_46 : decode cX5_dropLowestPoke 46 = .ok (.goto (-32), 3) := by decide +kernel
theorem dX5_dropLowestPoke_49 : decode cX5_dropLowestPoke 49 = .ok (.iinc 1 1, 3) := by decide +kernel
theorem dX5_dropLowestPoke_52 : decode cX5_dropLowestPoke 52 = .ok (.goto (-50), 3) := by decide +kernel
theorem dX5_dropLowestPoke_55 : decode cX5_dropLowestPoke 55 = .ok (.iconst 0, 1) := by decide +kernel
theorem dX5_dropLowestPoke_56 : decode cX5_dropLowestPoke 56 = .ok (.ireturn, 1) := by decide +kernel
theorem dX6_init_0 : decode cX6_init 0 = .ok (.aload_n 0, 1) := by decide +kernel
theorem dX6_init_1 : decode cX6_init 1 = .ok (.invokespecial 3, 3) := by decide +kernel
theorem dX6_init_4 : decode cX6_init 4 = .ok (.aload_n 0, 1) := by decide +kernel
theorem dX6_init_5 : decode cX6_init 5 = .ok (.bipush 9, 2) := by decide +kernel
theorem dX6_init_7 : decode cX6_init 7 = .ok (.anewarray 11, 3) := by decide +kernel
theorem dX6_init_10 : decode cX6_init 10 = .ok (.putfield 13, 3) := by decide +kernel
theorem dX6_init_13 : decode cX6_init 13 = .ok (.iconst 0, 1) := by decide +kernel
theorem dX6_init_14 : decode cX6_init 14 = .ok (.istore_n 1, 1) := by decide +kernel
theorem dX6_init_15 : decode cX6_init 15 = .ok (.iload_n 1, 1) := by decide +kernel
theorem dX6_init_16 : decode cX6_init 16 = .ok (.bipush 9, 2) := by decide +kernel
theorem dX6_init_18 : decode cX6_init 18 = .ok (.if_icmp .ge 22, 3) := by decide +kernel
theorem dX6_init_21 : decode cX6_init 21 = .ok (.aload_n 0, 1) := by decide +kernel
theorem dX6_init_22 : decode cX6_init 22 = .ok (.getfield 13, 3) := by decide +kernel
theorem dX6_init_25 : decode cX6_init 25 = .ok (.iload_n 1, 1) := by decide +kernel
theorem dX6_init_26 : decode cX6_init 26 = .ok (.new 11, 3) := by decide +kernel
theorem dX6_init_29 : decode cX6_init 29 = .ok (.dup, 1) := by decide +kernel
theorem dX6_init_30 : decode cX6_init 30 = .ok (.invokespecial 17, 3) := by decide +kernel
theorem dX6_init_33 : decode cX6_init 33 = .ok (.aastore, 1) := by decide +kernel
theorem dX6_init_34 : decode cX6_init 34 = .ok (.iinc 1 1, 3) := by decide +kernel
theorem dX6_init_37 : decode cX6_init 37 = .ok (.goto (-22), 3) := by decide +kernel
theorem dX6_init_40 : decode cX6_init 40 = .ok (.return_, 1) := by decide +kernel
theorem dX6_stage_0 : decode cX6_stage 0 = .ok (.aload_n 0, 1) := by decide +kernel
theorem dX6_stage_1 : decode cX6_stage 1 = .ok (.getfield 13, 3) := by decide +kernel
theorem dX6_stage_4 : decode cX6_stage 4 = .ok (.aload_n 0, 1) := by decide +kernel
theorem dX6_stage_5 : decode cX6_stage 5 = .ok (.getfield 18, 3) := by decide +kernel
theorem dX6_stage_8 : decode cX6_stage 8 = .ok (.aaload, 1) := by decide +kernel
theorem dX6_stage_9 : decode cX6_stage 9 = .ok (.aload_n 1, 1) := by decide +kernel
theorem dX6_stage_10 : decode cX6_stage 10 = .ok (.invokevirtual 22, 3) := by decide +kernel
theorem dX6_stage_13 : decode cX6_stage 13 = .ok (.return_, 1) := by decide +kernel
theorem dX6_staged_0 : decode cX6_staged 0 = .ok (.aload_n 0, 1) := by decide +kernel
theorem dX6_staged_1 : decode cX6_staged 1 = .ok (.getfield 13, 3) := by decide +kernel
theorem dX6_staged_4 : decode cX6_staged 4 = .ok (.aload_n 0, 1) := by decide +kernel
theorem dX6_staged_5 : decode cX6_staged 5 = .ok (.getfield 18, 3) := by decide +kernel
theorem dX6_staged_8 : decode cX6_staged 8 = .ok (.aaload, 1) := by decide +kernel
theorem dX6_staged_9 : decode cX6_staged 9 = .ok (.areturn, 1) := by decide +kernel
theorem dX6_keep_0 : decode cX6_keep 0 = .ok (.aload_n 0, 1) := by decide +kernel
theorem dX6_keep_1 : decode cX6_keep 1 = .ok (.aload_n 0, 1) := by decide +kernel
theorem dX6_keep_2 : decode cX6_keep 2 = .ok (.getfield 18, 3) := by decide +kernel
theorem dX6_keep_5 : decode cX6_keep 5 = .ok (.bipush 8, 2) := by decide +kernel
theorem dX6_keep_7 : decode cX6_keep 7 = .ok (.if_icmp .ne 7, 3) := by decide +kernel
theorem dX6_keep_10 : decode cX6_keep 10 = .ok (.iconst 0, 1) := by decide +kernel
theorem dX6_keep_11 : decode cX6_keep 11 = .ok (.goto 9, 3) := by decide +kernel
theorem dX6_keep_14 : decode cX6_keep 14 = .ok (.aload_n 0, 1) := by decide +kernel
theorem dX6_keep_15 : decode cX6_keep 15 = .ok (.getfield 18, 3) := by decide +kernel
theorem dX6_keep_18 : decode cX6_keep 18 = .ok (.iconst 1, 1) := by decide +kernel
theorem dX6_keep_19 : decode cX6_keep 19 = .ok (.iadd, 1) := by decide +kernel
theorem dX6_keep_20 : decode cX6_keep 20 = .ok (.putfield 18, 3) := by decide +kernel
theorem dX6_keep_23 : decode cX6_keep 23 = .ok (.aload_n 0, 1) := by decide +kernel
theorem dX6_keep_24 : decode cX6_keep 24 = .ok (.aload_n 0, 1) := by decide +kernel
theorem dX6_keep_25 : decode cX6_keep 25 = .ok (.getfield 26, 3) := by decide +kernel
theorem dX6_keep_28 : decode cX6_keep 28 = .ok (.iconst 1, 1) := by decide +kernel
theorem dX6_keep_29 : decode cX6_keep 29 = .ok (.iadd, 1) := by decide +kernel
theorem dX6_keep_30 : decode cX6_keep 30 = .ok (.bipush 8, 2) := by decide +kernel
theorem dX6_keep_32 : decode cX6_keep 32 = .ok (.invokestatic 29, 3) := by decide +kernel
theorem dX6_keep_35 : decode cX6_keep 35 = .ok (.putfield 26, 3) := by decide +kernel
theorem dX6_keep_38 : decode cX6_keep 38 = .ok (.return_, 1) := by decide +kernel
theorem dX6_takeBack_0 : decode cX6_takeBack 0 = .ok (.aload_n 0, 1) := by decide +kernel
theorem dX6_takeBack_1 : decode cX6_takeBack 1 = .ok (.aload_n 0, 1) := by decide +kernel
theorem dX6_takeBack_2 : decode cX6_takeBack 2 = .ok (.getfield 18, 3) := by decide +kernel
theorem dX6_takeBack_5 : decode cX6_takeBack 5 = .ok (.ifCond .ne 8, 3) := by decide +kernel
theorem dX6_takeBack_8 : decode cX6_takeBack 8 = .ok (.bipush 8, 2) := by decide +kernel
theorem dX6_takeBack_10 : decode cX6_takeBack 10 = .ok (.goto 9, 3) := by decide +kernel
theorem dX6_takeBack_13 : decode cX6_takeBack 13 = .ok (.aload_n 0, 1) := by decide +kernel
theorem dX6_takeBack_14 : decode cX6_takeBack 14 = .ok (.getfield 18, 3) := by decide +kernel
theorem dX6_takeBack_17 : decode cX6_takeBack 17 = .ok (.iconst 1, 1) := by decide +kernel
theorem dX6_takeBack_18 : decode cX6_takeBack 18 = .ok (.isub, 1) := by decide +kernel
theorem dX6_takeBack_19 : decode cX6_takeBack 19 = .ok (.putfield 18, 3) := by decide +kernel
theorem dX6_takeBack_22 : decode cX6_takeBack 22 = .ok (.aload_n 0, 1) := by decide +kernel
theorem dX6_takeBack_23 : decode cX6_takeBack 23 = .ok (.aload_n 0, 1) := by decide +kernel
theorem dX6_takeBack_24 : decode cX6_takeBack 24 = .ok (.getfield 26, 3) := by decide +kernel
theorem dX6_takeBack_27 : decode cX6_takeBack 27 = .ok (.iconst 1, 1) := by decide +kernel
theorem dX6_takeBack_28 : decode cX6_takeBack 28 = .ok (.isub, 1) := by decide +kernel
theorem dX6_takeBack_29 : decode cX6_takeBack 29 = .ok (.iconst 0, 1) := by decide +kernel
theorem dX6_takeBack_30 : decode cX6_takeBack 30 = .ok (.invokestatic 35, 3) := by decide +kernel
theorem dX6_takeBack_33 : decode cX6_takeBack 33 = .ok (.putfield 26, 3) := by decide +kernel
theorem dX6_takeBack_36 : decode cX6_takeBack 36 = .ok (.aload_n 0, 1) := by decide +kernel
theorem dX6_takeBack_37 : decode cX6_takeBack 37 = .ok (.getfield 13, 3) := by decide +kernel
theorem dX6_takeBack_40 : decode cX6_takeBack 40 = .ok (.aload_n 0, 1) := by decide +kernel
theorem dX6_takeBack_41 : decode cX6_takeBack 41 = .ok (.getfield 18, 3) := by decide +kernel
theorem dX6_takeBack_44 : decode cX6_takeBack 44 = .ok (.aaload, 1) := by decide +kernel
theorem dX6_takeBack_45 : decode cX6_takeBack 45 = .ok (.areturn, 1) := by decide +kernel
theorem dX6_forget_0 : decode cX6_forget 0 = .ok (.aload_n 0, 1) := by decide +kernel
theorem dX6_forget_1 : decode cX6_forget 1 = .ok (.iconst 0, 1) := by decide +kernel
theorem dX6_forget_2 : decode cX6_forget 2 = .ok (.putfield 26, 3) := by decide +kernel
theorem dX6_forget_5 : decode cX6_forget 5 = .ok (.return_, 1) := by decide +kernel
theorem dX7_init_0 : decode cX7_init 0 = .ok (.aload_n 0, 1) := by decide +kernel
theorem dX7_init_1 : decode cX7_init 1 = .ok (.invokespecial 3, 3) := by decide +kernel
theorem dX7_init_4 : decode cX7_init 4 = .ok (.aload_n 0, 1) := by decide +kernel
theorem dX7_init_5 : decode cX7_init 5 = .ok (.sipush 256, 3) := by decide +kernel
theorem dX7_init_8 : decode cX7_init 8 = .ok (.newarray .char, 2) := by decide +kernel
theorem dX7_init_10 : decode cX7_init 10 = .ok (.putfield 9, 3) := by decide +kernel
theorem dX7_init_13 : decode cX7_init 13 = .ok (.return_, 1) := by decide +kernel
theorem dX7_clear_0 : decode cX7_clear 0 = .ok (.aload_n 0, 1) := by decide +kernel
theorem dX7_clear_1 : decode cX7_clear 1 = .ok (.iconst 0, 1) := by decide +kernel
theorem dX7_clear_2 : decode cX7_clear 2 = .ok (.putfield 15, 3) := by decide +kernel
theorem dX7_clear_5 : decode cX7_clear 5 = .ok (.return_, 1) := by decide +kernel
theorem dX7_put_0 : decode cX7_put 0 = .ok (.aload_n 0, 1) := by decide +kernel
theorem dX7_put_1 : decode cX7_put 1 = .ok (.getfield 15, 3) := by decide +kernel
theorem dX7_put_4 : decode cX7_put 4 = .ok (.aload_n 0, 1) := by decide +kernel
theorem dX7_put_5 : decode cX7_put 5 = .ok (.getfield 9, 3) := by decide +kernel
theorem dX7_put_8 : decode cX7_put 8 = .ok (.arraylength, 1) := by decide +kernel
theorem dX7_put_9 : decode cX7_put 9 = .ok (.if_icmp .ge 23, 3) := by decide +kernel
theorem dX7_put_12 : decode cX7_put 12 = .ok (.aload_n 0, 1) := by decide +kernel
theorem dX7_put_13 : decode cX7_put 13 = .ok (.getfield 9, 3) := by decide +kernel
theorem dX7_put_16 : decode cX7_put 16 = .ok (.aload_n 0, 1) := by decide +kernel
theorem dX7_put_17 : decode cX7_put 17 = .ok (.getfield 15, 3) := by decide +kernel
theorem dX7_put_20 : decode cX7_put 20 = .ok (.iload_n 1, 1) := by decide +kernel
theorem dX7_put_21 : decode cX7_put 21 = .ok (.castore, 1) := by decide +kernel
theorem dX7_put_22 : decode cX7_put 22 = .ok (.aload_n 0, 1) := by decide +kernel
theorem dX7_put_23 : decode cX7_put 23 = .ok (.dup, 1) := by decide +kernel
theorem dX7_put_24 : decode cX7_put 24 = .ok (.getfield 15, 3) := by decide +kernel
theorem dX7_put_27 : decode cX7_put 27 = .ok (.iconst 1, 1) := by decide +kernel
theorem dX7_put_28 : decode cX7_put 28 = .ok (.iadd, 1) := by decide +kernel
theorem dX7_put_29 : decode cX7_put 29 = .ok (.putfield 15, 3) := by decide +kernel
theorem dX7_put_32 : decode cX7_put 32 = .ok (.return_, 1) := by decide +kernel
theorem dX7_putNumber_0 : decode cX7_putNumber 0 = .ok (.iload_n 1, 1) := by decide +kernel
theorem dX7_putNumber_1 : decode cX7_putNumber 1 = .ok (.invokestatic 19, 3) := by decide +kernel
theorem dX7_putNumber_4 : decode cX7_putNumber 4 = .ok (.istore_n 2, 1) := by decide +kernel
theorem dX7_putNumber_5 : decode cX7_putNumber 5 = .ok (.iload_n 1, 1) := by decide +kernel
theorem dX7_putNumber_6 : decode cX7_putNumber 6 = .ok (.ifCond .ge 9, 3) := by decide +kernel
theorem dX7_putNumber_9 : decode cX7_putNumber 9 = .ok (.aload_n 0, 1) := by decide +kernel
theorem dX7_putNumber_10 : decode cX7_putNumber 10 = .ok (.bipush 45, 2) := by decide +kernel
theorem dX7_putNumber_12 : decode cX7_putNumber 12 = .ok (.invokevirtual 25, 3) := by decide +kernel
theorem dX7_putNumber_15 : decode cX7_putNumber 15 = .ok (.ldc 29, 2) := by decide +kernel
theorem dX7_putNumber_17 : decode cX7_putNumber 17 = .ok (.istore_n 3, 1) := by decide +kernel
theorem dX7_putNumber_18 : decode cX7_putNumber 18 = .ok (.iload_n 3, 1) := by decide +kernel
theorem dX7_putNumber_19 : decode cX7_putNumber 19 = .ok (.ifCond .le 35, 3) := by decide +kernel
theorem dX7_putNumber_22 : decode cX7_putNumber 22 = .ok (.iload_n 2, 1) := by decide +kernel
theorem dX7_putNumber_23 : decode cX7_putNumber 23 = .ok (.iload_n 3, 1) := by decide +kernel
theorem dX7_putNumber_24 : decode cX7_putNumber 24 = .ok (.if_icmp .ge 8, 3) := by decide +kernel
theorem dX7_putNumber_27 : decode cX7_putNumber 27 = .ok (.iload_n 3, 1) := by decide +kernel
theorem dX7_putNumber_28 : decode cX7_putNumber 28 = .ok (.iconst 1, 1) := by decide +kernel
theorem dX7_putNumber_29 : decode cX7_putNumber 29 = .ok (.if_icmp .ne 17, 3) := by decide +kernel
theorem dX7_putNumber_32 : decode cX7_putNumber 32 = .ok (.aload_n 0, 1) := by decide +kernel
theorem dX7_putNumber_33 : decode cX7_putNumber 33 = .ok (.bipush 48, 2) := by decide +kernel
theorem dX7_putNumber_35 : decode cX7_putNumber 35 = .ok (.iload_n 2, 1) := by decide +kernel
theorem dX7_putNumber_36 : decode cX7_putNumber 36 = .ok (.iload_n 3, 1) := by decide +kernel
theorem dX7_putNumber_37 : decode cX7_putNumber 37 = .ok (.idiv, 1) := by decide +kernel
theorem dX7_putNumber_38 : decode cX7_putNumber 38 = .ok (.bipush 10, 2) := by decide +kernel
theorem dX7_putNumber_40 : decode cX7_putNumber 40 = .ok (.irem, 1) := by decide +kernel
theorem dX7_putNumber_41 : decode cX7_putNumber 41 = .ok (.iadd, 1) := by decide +kernel
theorem dX7_putNumber_42 : decode cX7_putNumber 42 = .ok (.i2c, 1) := by decide +kernel
theorem dX7_putNumber_43 : decode cX7_putNumber 43 = .ok (.invokevirtual 25, 3) := by decide +kernel
theorem dX7_putNumber_46 : decode cX7_putNumber 46 = .ok (.iload_n 3, 1) := by decide +kernel
theorem dX7_putNumber_47 : decode cX7_putNumber 47 = .ok (.bipush 10, 2) := by decide +kernel
theorem dX7_putNumber_49 : decode cX7_putNumber 49 = .ok (.idiv, 1) := by decide +kernel
theorem dX7_putNumber_50 : decode cX7_putNumber 50 = .ok (.istore_n 3, 1) := by decide +kernel
theorem dX7_putNumber_51 : decode cX7_putNumber 51 = .ok (.goto (-33), 3) := by decide +kernel
theorem dX7_putNumber_54 : decode cX7_putNumber 54 = .ok (.return_, 1) := by decide +kernel
theorem dX9_init_0 : decode cX9_init 0 = .ok (.aload_n 0, 1) := by decide +kernel
theorem dX9_init_1 : decode cX9_init 1 = .ok (.invokespecial 3, 3) := by decide +kernel
theorem dX9_init_4 : decode cX9_init 4 = .ok (.aload_n 0, 1) := by decide +kernel
theorem dX9_init_5 : decode cX9_init 5 = .ok (.bipush 60, 2) := by decide +kernel
theorem dX9_init_7 : decode cX9_init 7 = .ok (.newarray .char, 2) := by decide +kernel
theorem dX9_init_9 : decode cX9_init 9 = .ok (.putfield 9, 3) := by decide +kernel
theorem dX9_init_12 : decode cX9_init 12 = .ok (.aload_n 0, 1) := by decide +kernel
theorem dX9_init_13 : decode cX9_init 13 = .ok (.iconst 4, 1) := by decide +kernel
theorem dX9_init_14 : decode cX9_init 14 = .ok (.newarray .int, 2) := by decide +kernel
theorem dX9_init_16 : decode cX9_init 16 = .ok (.putfield 15, 3) := by decide +kernel
theorem dX9_init_19 : decode cX9_init 19 = .ok (.return_, 1) := by decide +kernel
theorem dX9_append_0 : decode cX9_append 0 = .ok (.aload_n 0, 1) := by decide +kernel
theorem dX9_append_1 : decode cX9_append 1 = .ok (.getfield 19, 3) := by decide +kernel
theorem dX9_append_4 : decode cX9_append 4 = .ok (.aload_n 0, 1) := by decide +kernel
theorem dX9_append_5 : decode cX9_append 5 = .ok (.getfield 9, 3) := by decide +kernel
theorem dX9_append_8 : decode cX9_append 8 = .ok (.arraylength, 1) := by decide +kernel
theorem dX9_append_9 : decode cX9_append 9 = .ok (.if_icmp .ge 23, 3) := by decide +kernel
theorem dX9_append_12 : decode cX9_append 12 = .ok (.aload_n 0, 1) := by decide +kernel
theorem dX9_append_13 : decode cX9_append 13 = .ok (.getfield 9, 3) := by decide +kernel
theorem dX9_append_16 : decode cX9_append 16 = .ok (.aload_n 0, 1) := by decide +kernel
theorem dX9_append_17 : decode cX9_append 17 = .ok (.getfield 19, 3) := by decide +kernel
theorem dX9_append_20 : decode cX9_append 20 = .ok (.iload_n 1, 1) := by decide +kernel
theorem dX9_append_21 : decode cX9_append 21 = .ok (.castore, 1) := by decide +kernel
theorem dX9_append_22 : decode cX9_append 22 = .ok (.aload_n 0, 1) := by decide +kernel
theorem dX9_append_23 : decode cX9_append 23 = .ok (.dup, 1) := by decide +kernel
theorem dX9_append_24 : decode cX9_append 24 = .ok (.getfield 19, 3) := by decide +kernel
theorem dX9_append_27 : decode cX9_append 27 = .ok (.iconst 1, 1) := by decide +kernel
theorem dX9_append_28 : decode cX9_append 28 = .ok (.iadd, 1) := by decide +kernel
theorem dX9_append_29 : decode cX9_append 29 = .ok (.putfield 19, 3) := by decide +kernel
theorem dX9_append_32 : decode cX9_append 32 = .ok (.return_, 1) := by decide +kernel
theorem dX9_clear_0 : decode cX9_clear 0 = .ok (.aload_n 0, 1) := by decide +kernel
theorem dX9_clear_1 : decode cX9_clear 1 = .ok (.iconst 0, 1) := by decide +kernel
theorem dX9_clear_2 : decode cX9_clear 2 = .ok (.putfield 19, 3) := by decide +kernel
theorem dX9_clear_5 : decode cX9_clear 5 = .ok (.return_, 1) := by decide +kernel
theorem dX9_rewind_0 : decode cX9_rewind 0 = .ok (.aload_n 0, 1) := by decide +kernel
theorem dX9_rewind_1 : decode cX9_rewind 1 = .ok (.iconst 0, 1) := by decide +kernel
theorem dX9_rewind_2 : decode cX9_rewind 2 = .ok (.putfield 23, 3) := by decide +kernel
theorem dX9_rewind_5 : decode cX9_rewind 5 = .ok (.return_, 1) := by decide +kernel
theorem dX9_firstError_0 : decode cX9_firstError 0 = .ok (.aload_n 0, 1) := by decide +kernel
theorem dX9_firstError_1 : decode cX9_firstError 1 = .ok (.iconst 0, 1) := by decide +kernel
theorem dX9_firstError_2 : decode cX9_firstError 2 = .ok (.putfield 23, 3) := by decide +kernel
theorem dX9_firstError_5 : decode cX9_firstError 5 = .ok (.iconst 0, 1) := by decide +kernel
theorem dX9_firstError_6 : decode cX9_firstError 6 = .ok (.istore_n 1, 1) := by decide +kernel
theorem dX9_firstError_7 : decode cX9_firstError 7 = .ok (.iload_n 1, 1) := by decide +kernel
theorem dX9_firstError_8 : decode cX9_firstError 8 = .ok (.bipush 60, 2) := by decide +kernel
theorem dX9_firstError_10 : decode cX9_firstError 10 = .ok (.if_icmp .gt 48, 3) := by decide +kernel
theorem dX9_firstError_13 : decode cX9_firstError 13 = .ok (.aload_n 0, 1) := by decide +kernel
theorem dX9_firstError_14 : decode cX9_firstError 14 = .ok (.invokevirtual 26, 3) := by decide +kernel
theorem dX9_firstError_17 : decode cX9_firstError 17 = .ok (.ifCond .ne 8, 3) := by decide +kernel
theorem dX9_firstError_20 : decode cX9_firstError 20 = .ok (.aload_n 0, 1) := by decide +kernel
theorem dX9_firstError_21 : decode cX9_firstError 21 = .ok (.getfield 23, 3) := by decide +kernel
theorem dX9_firstError_24 : decode cX9_firstError 24 = .ok (.ireturn, 1) := by decide +kernel
theorem dX9_firstError_25 : decode cX9_firstError 25 = .ok (.aload_n 0, 1) := by decide +kernel
theorem dX9_firstError_26 : decode cX9_firstError 26 = .ok (.getfield 23, 3) := by decide +kernel
theorem dX9_firstError_29 : decode cX9_firstError 29 = .ok (.aload_n 0, 1) := by decide +kernel
theorem dX9_firstError_30 : decode cX9_firstError 30 = .ok (.getfield 19, 3) := by decide +kernel
theorem dX9_firstError_33 : decode cX9_firstError 33 = .ok (.if_icmp .ne 5, 3) := by decide +kernel
theorem dX9_firstError_36 : decode cX9_firstError 36 = .ok (.iconst (-1), 1) := by decide +kernel
theorem dX9_firstError_37 : decode cX9_firstError 37 = .ok (.ireturn, 1) := by decide +kernel
theorem dX9_firstError_38 : decode cX9_firstError 38 = .ok (.aload_n 0, 1) := by decide +kernel
theorem dX9_firstError_39 : decode cX9_firstError 39 = .ok (.bipush 59, 2) := by decide +kernel
theorem dX9_firstError_41 : decode cX9_firstError 41 = .ok (.invokevirtual 30, 3) := by decide +kernel
theorem dX9_firstError_44 : decode cX9_firstError 44 = .ok (.ifCond .ne 8, 3) := by decide +kernel
theorem dX9_firstError_47 : decode cX9_firstError 47 = .ok (.aload_n 0, 1) := by decide +kernel
theorem dX9_firstError_48 : decode cX9_firstError 48 = .ok (.getfield 23, 3) := by decide +kernel
theorem dX9_firstError_51 : decode cX9_firstError 51 = .ok (.ireturn, 1) := by decide +kernel
theorem dX9_firstError_52 : decode cX9_firstError 52 = .ok (.iinc 1 1, 3) := by decide +kernel
theorem dX9_firstError_55 : decode cX9_firstError 55 = .ok (.goto (-48), 3) := by decide +kernel
theorem dX9_firstError_58 : decode cX9_firstError 58 = .ok (.aload_n 0, 1) := by decide +kernel
theorem dX9_firstError_59 : decode cX9_firstError 59 = .ok (.getfield 23, 3) := by decide +kernel
theorem dX9_firstError_62 : decode cX9_firstError 62 = .ok (.ireturn, 1) := by decide +kernel
theorem dX9_advance_0 : decode cX9_advance 0 = .ok (.aload_n 0, 1) := by decide +kernel
theorem dX9_advance_1 : decode cX9_advance 1 = .ok (.getfield 23, 3) := by decide +kernel
theorem dX9_advance_4 : decode cX9_advance 4 = .ok (.aload_n 0, 1) := by decide +kernel
theorem dX9_advance_5 : decode cX9_advance 5 = .ok (.getfield 19, 3) := by decide +kernel
theorem dX9_advance_8 : decode cX9_advance 8 = .ok (.if_icmp .ge 30, 3) := by decide +kernel
theorem dX9_advance_11 : decode cX9_advance 11 = .ok (.aload_n 0, 1) := by decide +kernel
theorem dX9_advance_12 : decode cX9_advance 12 = .ok (.getfield 23, 3) := by decide +kernel
theorem dX9_advance_15 : decode cX9_advance 15 = .ok (.ifCond .eq 12, 3) := by decide +kernel
theorem dX9_advance_18 : decode cX9_advance 18 = .ok (.aload_n 0, 1) := by decide +kernel
theorem dX9_advance_19 : decode cX9_advance 19 = .ok (.bipush 59, 2) := by decide +kernel
theorem dX9_advance_21 : decode cX9_advance 21 = .ok (.invokevirtual 30, 3) := by decide +kernel
theorem dX9_advance_24 : decode cX9_advance 24 = .ok (.ifCond .eq 14, 3) := by decide +kernel
theorem dX9_advance_27 : decode cX9_advance 27 = .ok (.aload_n 0, 1) := by decide +kernel
theorem dX9_advance_28 : decode cX9_advance 28 = .ok (.invokevirtual 26, 3) := by decide +kernel
theorem dX9_advance_31 : decode cX9_advance 31 = .ok (.ifCond .eq 7, 3) := by decide +kernel
theorem dX9_advance_34 : decode cX9_advance 34 = .ok (.iconst 1, 1) := by decide +kernel
theorem dX9_advance_35 : decode cX9_advance 35 = .ok (.goto 4, 3) := by decide +kernel
theorem dX9_advance_38 : decode cX9_advance 38 = .ok (.iconst 0, 1) := by decide +kernel
theorem dX9_advance_39 : decode cX9_advance 39 = .ok (.ireturn, 1) := by decide +kernel
theorem dX9_readCommand_0 : decode cX9_readCommand 0 = .ok (.aload_n 0, 1) := by decide +kernel
theorem dX9_readCommand_1 : decode cX9_readCommand 1 = .ok (.iconst 0, 1) := by decide +kernel
theorem dX9_readCommand_2 : decode cX9_readCommand 2 = .ok (.putfield 34, 3) := by decide +kernel
theorem dX9_readCommand_5 : decode cX9_readCommand 5 = .ok (.aload_n 0, 1) := by decide +kernel
theorem dX9_readCommand_6 : decode cX9_readCommand 6 = .ok (.aload_n 0, 1) := by decide +kernel
theorem dX9_readCommand_7 : decode cX9_readCommand 7 = .ok (.invokevirtual 37, 3) := by decide +kernel
theorem dX9_readCommand_10 : decode cX9_readCommand 10 = .ok (.putfield 41, 3) := by decide +kernel
theorem dX9_readCommand_13 : decode cX9_readCommand 13 = .ok (.aload_n 0, 1) := by decide +kernel
theorem dX9_readCommand_14 : decode cX9_readCommand 14 = .ok (.getfield 41, 3) := by decide +kernel
theorem dX9_readCommand_17 : decode cX9_readCommand 17 = .ok (.ifnonnull 5, 3) := by decide +kernel
theorem dX9_readCommand_20 : decode cX9_readCommand 20 = .ok (.iconst 0, 1) := by decide +kernel
theorem dX9_readCommand_21 : decode cX9_readCommand 21 = .ok (.ireturn, 1) := by decide +kernel
theorem dX9_readCommand_22 : decode cX9_readCommand 22 = .ok (.aload_n 0, 1) := by decide +kernel
theorem dX9_readCommand_23 : decode cX9_readCommand 23 = .ok (.getfield 41, 3) := by decide +kernel
theorem dX9_readCommand_26 : decode cX9_readCommand 26 = .ok (.getfield 45, 3) := by decide +kernel
theorem dX9_readCommand_29 : decode cX9_readCommand 29 = .ok (.astore_n 1, 1) := by decide +kernel
theorem dX9_readCommand_30 : decode cX9_readCommand 30 = .ok (.iconst 0, 1) := by decide +kernel
theorem dX9_readCommand_31 : decode cX9_readCommand 31 = .ok (.istore_n 2, 1) := by decide +kernel
theorem dX9_readCommand_32 : decode cX9_readCommand 32 = .ok (.iload_n 2, 1) := by decide +kernel
theorem dX9_readCommand_33 : decode cX9_readCommand 33 = .ok (.aload_n 1, 1) := by decide +kernel
theorem dX9_readCommand_34 : decode cX9_readCommand 34 = .ok (.invokevirtual 51, 3) := by decide +kernel
theorem dX9_readCommand_37 : decode cX9_readCommand 37 = .ok (.if_icmp .ge 23, 3) := by decide +kernel
theorem dX9_readCommand_40 : decode cX9_readCommand 40 = .ok (.aload_n 0, 1) := by decide +kernel
theorem dX9_readCommand_41 : decode cX9_readCommand 41 = .ok (.aload_n 1, 1) := by decide +kernel
theorem dX9_readCommand_42 : decode cX9_readCommand 42 = .ok (.iload_n 2, 1) := by decide +kernel
theorem dX9_readCommand_43 : decode cX9_readCommand 43 = .ok (.invokevirtual 56, 3) := by decide +kernel
theorem dX9_readCommand_46 : decode cX9_readCommand 46 = .ok (.invokevirtual 60, 3) := by decide +kernel
theorem dX9_readCommand_49 : decode cX9_readCommand 49 = .ok (.ifCond .ne 5, 3) := by decide +kernel
theorem dX9_readCommand_52 : decode cX9_readCommand 52 = .ok (.iconst 0, 1) := by decide +kernel
theorem dX9_readCommand_53 : decode cX9_readCommand 53 = .ok (.ireturn, 1) := by decide +kernel
theorem dX9_readCommand_54 : decode cX9_readCommand 54 = .ok (.iinc 2 1, 3) := by decide +kernel
theorem dX9_readCommand_57 : decode cX9_readCommand 57 = .ok (.goto (-25), 3) := by decide +kernel
theorem dX9_readCommand_60 : decode cX9_readCommand 60 = .ok (.iconst 1, 1) := by decide +kernel
theorem dX9_readCommand_61 : decode cX9_readCommand 61 = .ok (.ireturn, 1) := by decide +kernel
theorem dX9_readWord_0 : decode cX9_readWord 0 = .ok (.aload_n 0, 1) := by decide +kernel
theorem dX9_readWord_1 : decode cX9_readWord 1 = .ok (.getfield 23, 3) := by decide +kernel
theorem dX9_readWord_4 : decode cX9_readWord 4 = .ok (.istore_n 1, 1) := by decide +kernel
theorem dX9_readWord_5 : decode cX9_readWord 5 = .ok (.iconst 0, 1) := by decide +kernel
theorem dX9_readWord_6 : decode cX9_readWord 6 = .ok (.istore_n 2, 1) := by decide +kernel
theorem dX9_readWord_7 : decode cX9_readWord 7 = .ok (.iload_n 2, 1) := by decide +kernel
theorem dX9_readWord_8 : decode cX9_readWord 8 = .ok (.getstatic 63, 3) := by decide +kernel
theorem dX9_readWord_11 : decode cX9_readWord 11 = .ok (.arraylength, 1) := by decide +kernel
theorem dX9_readWord_12 : decode cX9_readWord 12 = .ok (.if_icmp .ge 63, 3) := by decide +kernel
theorem dX9_readWord_15 : decode cX9_readWord 15 = .ok (.getstatic 63, 3) := by decide +kernel
theorem dX9_readWord_18 : decode cX9_readWord 18 = .ok (.iload_n 2, 1) := by decide +kernel
theorem dX9_readWord_19 : decode cX9_readWord 19 = .ok (.aaload, 1) := by decide +kernel
theorem dX9_readWord_20 : decode cX9_readWord 20 = .ok (.getfield 67, 3) := by decide +kernel
theorem dX9_readWord_23 : decode cX9_readWord 23 = .ok (.astore_n 3, 1) := by decide +kernel
theorem dX9_readWord_24 : decode cX9_readWord 24 = .ok (.aload_n 0, 1) := by decide +kernel
theorem dX9_readWord_25 : decode cX9_readWord 25 = .ok (.aload_n 3, 1) := by decide +kernel
theorem dX9_readWord_26 : decode cX9_readWord 26 = .ok (.invokevirtual 70, 3) := by decide +kernel
theorem dX9_readWord_29 : decode cX9_readWord 29 = .ok (.istore 4, 2) := by decide +kernel
theorem dX9_readWord_31 : decode cX9_readWord 31 = .ok (.iload 4, 2) := by decide +kernel
theorem dX9_readWord_33 : decode cX9_readWord 33 = .ok (.aload_n 3, 1) := by decide +kernel
theorem dX9_readWord_34 : decode cX9_readWord 34 = .ok (.invokevirtual 51, 3) := by decide +kernel
theorem dX9_readWord_37 : decode cX9_readWord 37 = .ok (.if_icmp .ne 20, 3) := by decide +kernel
theorem dX9_readWord_40 : decode cX9_readWord 40 = .ok (.aload_n 0, 1) := by decide +kernel
theorem dX9_readWord_41 : decode cX9_readWord 41 = .ok (.dup, 1) := by decide +kernel
theorem dX9_readWord_42 : decode cX9_readWord 42 = .ok (.getfield 23, 3) := by decide +kernel
theorem dX9_readWord_45 : decode cX9_readWord 45 = .ok (.iload 4, 2) := by decide +kernel
theorem dX9_readWord_47 : decode cX9_readWord 47 = .ok (.iadd, 1) := by decide +kernel
theorem dX9_readWord_48 : decode cX9_readWord 48 = .ok (.putfield 23, 3) := by decide +kernel
theorem dX9_readWord_51 : decode cX9_readWord 51 = .ok (.getstatic 63, 3) := by decide +kernel
theorem dX9_readWord_54 : decode cX9_readWord 54 = .ok (.iload_n 2, 1) := by decide +kernel
theorem dX9_readWord_55 : decode cX9_readWord 55 = .ok (.aaload, 1) := by decide +kernel
theorem dX9_readWord_56 : decode cX9_readWord 56 = .ok (.areturn, 1) := by decide +kernel
theorem dX9_readWord_57 : decode cX9_readWord 57 = .ok (.iload_n 1, 1) := by decide +kernel
theorem dX9_readWord_58 : decode cX9_readWord 58 = .ok (.aload_n 0, 1) := by decide +kernel
theorem dX9_readWord_59 : decode cX9_readWord 59 = .ok (.getfield 23, 3) := by decide +kernel
theorem dX9_readWord_62 : decode cX9_readWord 62 = .ok (.iload 4, 2) := by decide +kernel
theorem dX9_readWord_64 : decode cX9_readWord 64 = .ok (.iadd, 1) := by decide +kernel
theorem dX9_readWord_65 : decode cX9_readWord 65 = .ok (.invokestatic 74, 3) := by decide +kernel
theorem dX9_readWord_68 : decode cX9_readWord 68 = .ok (.istore_n 1, 1) := by decide +kernel
theorem dX9_readWord_69 : decode cX9_readWord 69 = .ok (.iinc 2 1, 3) := by decide +kernel
theorem dX9_readWord_72 : decode cX9_readWord 72 = .ok (.goto (-65), 3) := by decide +kernel
theorem dX9_readWord_75 : decode cX9_readWord 75 = .ok (.aload_n 0, 1) := by decide +kernel
theorem dX9_readWord_76 : decode cX9_readWord 76 = .ok (.iload_n 1, 1) := by decide +kernel
theorem dX9_readWord_77 : decode cX9_readWord 77 = .ok (.putfield 23, 3) := by decide +kernel
theorem dX9_readWord_80 : decode cX9_readWord 80 = .ok (.aconst_null, 1) := by decide +kernel
theorem dX9_readWord_81 : decode cX9_readWord 81 = .ok (.areturn, 1) := by decide +kernel
theorem dX9_matchedLength_0 : decode cX9_matchedLength 0 = .ok (.iconst 0, 1) := by decide +kernel
theorem dX9_matchedLength_1 : decode cX9_matchedLength 1 = .ok (.istore_n 2, 1) := by decide +kernel
theorem dX9_matchedLength_2 : decode cX9_matchedLength 2 = .ok (.iload_n 2, 1) := by decide +kernel
theorem dX9_matchedLength_3 : decode cX9_matchedLength 3 = .ok (.aload_n 1, 1) := by decide +kernel
theorem dX9_matchedLength_4 : decode cX9_matchedLength 4 = .ok (.invokevirtual 51, 3) := by decide +kernel
theorem dX9_matchedLength_7 : decode cX9_matchedLength 7 = .ok (.if_icmp .ge 27, 3) := by decide +kernel
theorem dX9_matchedLength_10 : decode cX9_matchedLength 10 = .ok (.aload_n 0, 1) := by decide +kernel
theorem dX9_matchedLength_11 : decode cX9_matchedLength 11 = .ok (.aload_n 0, 1) := by decide +kernel
theorem dX9_matchedLength_12 : decode cX9_matchedLength 12 = .ok (.getfield 23, 3) := by decide +kernel
theorem dX9_matchedLength_15 : decode cX9_matchedLength 15 = .ok (.iload_n 2, 1) := by decide +kernel
theorem dX9_matchedLength_16 : decode cX9_matchedLength 16 = .ok (.iadd, 1) := by decide +kernel
theorem dX9_matchedLength_17 : decode cX9_matchedLength 17 = .ok (.aload_n 1, 1) := by decide +kernel
theorem dX9_matchedLength_18 : decode cX9_matchedLength 18 = .ok (.iload_n 2, 1) := by decide +kernel
theorem dX9_matchedLength_19 : decode cX9_matchedLength 19 = .ok (.invokevirtual 56, 3) := by decide +kernel
theorem dX9_matchedLength_22 : decode cX9_matchedLength 22 = .ok (.invokevirtual 80, 3) := by decide +kernel
theorem dX9_matchedLength_25 : decode cX9_matchedLength 25 = .ok (.ifCond .eq 9, 3) := by decide +kernel
theorem dX9_matchedLength_28 : decode cX9_matchedLength 28 = .ok (.iinc 2 1, 3) := by decide +kernel
theorem dX9_matchedLength_31 : decode cX9_matchedLength 31 = .ok (.goto (-29), 3) := by decide +kernel
theorem dX9_matchedLength_34 : decode cX9_matchedLength 34 = .ok (.iload_n 2, 1) := by decide +kernel
theorem dX9_matchedLength_35 : decode cX9_matchedLength 35 = .ok (.ireturn, 1) := by decide +kernel
theorem dX9_readPart_0 : decode cX9_readPart 0 = .ok (.iload_n 1, 1) := by decide +kernel
theorem dX9_readPart_1 : decode cX9_readPart 1 = .ok (.bipush 110, 2) := by decide +kernel
theorem dX9_readPart_3 : decode cX9_readPart 3 = .ok (.if_icmp .ne 8, 3) := by decide +kernel
theorem dX9_readPart_6 : decode cX9_readPart 6 = .ok (.aload_n 0, 1) := by decide +kernel
theorem dX9_readPart_7 : decode cX9_readPart 7 = .ok (.invokevirtual 84, 3) := by decide +kernel
theorem dX9_readPart_10 : decode cX9_readPart 10 = .ok (.ireturn, 1) := by decide +kernel
theorem dX9_readPart_11 : decode cX9_readPart 11 = .ok (.iload_n 1, 1) := by decide +kernel
theorem dX9_readPart_12 : decode cX9_readPart 12 = .ok (.bipush 100, 2) := by decide +kernel
theorem dX9_readPart_14 : decode cX9_readPart 14 = .ok (.if_icmp .ne 8, 3) := by decide +kernel
theorem dX9_readPart_17 : decode cX9_readPart 17 = .ok (.aload_n 0, 1) := by decide +kernel
theorem dX9_readPart_18 : decode cX9_readPart 18 = .ok (.invokevirtual 87, 3) := by decide +kernel
theorem dX9_readPart_21 : decode cX9_readPart 21 = .ok (.ireturn, 1) := by decide +kernel
theorem dX9_readPart_22 : decode cX9_readPart 22 = .ok (.iload_n 1, 1) := by decide +kernel
theorem dX9_readPart_23 : decode cX9_readPart 23 = .ok (.bipush 115, 2) := by decide +kernel
theorem dX9_readPart_25 : decode cX9_readPart 25 = .ok (.if_icmp .ne 12, 3) := by decide +kernel
theorem dX9_readPart_28 : decode cX9_readPart 28 = .ok (.aload_n 0, 1) := by decide +kernel
theorem dX9_readPart_29 : decode cX9_readPart 29 = .ok (.bipush 43, 2) := by decide +kernel
theorem dX9_readPart_31 : decode cX9_readPart 31 = .ok (.bipush 45, 2) := by decide +kernel
theorem dX9_readPart_33 : decode cX9_readPart 33 = .ok (.invokevirtual 90, 3) := by decide +kernel
theorem dX9_readPart_36 : decode cX9_readPart 36 = .ok (.ireturn, 1) := by decide +kernel
theorem dX9_readPart_37 : decode cX9_readPart 37 = .ok (.iload_n 1, 1) := by decide +kernel
theorem dX9_readPart_38 : decode cX9_readPart 38 = .ok (.bipush 112, 2) := by decide +kernel
theorem dX9_readPart_40 : decode cX9_readPart 40 = .ok (.if_icmp .ne 12, 3) := by decide +kernel
theorem dX9_readPart_43 : decode cX9_readPart 43 = .ok (.aload_n 0, 1) := by decide +kernel
theorem dX9_readPart_44 : decode cX9_readPart 44 = .ok (.bipush 111, 2) := by decide +kernel
theorem dX9_readPart_46 : decode cX9_readPart 46 = .ok (.bipush 117, 2) := by decide +kernel
theorem dX9_readPart_48 : decode cX9_readPart 48 = .ok (.invokevirtual 90, 3) := by decide +kernel
theorem dX9_readPart_51 : decode cX9_readPart 51 = .ok (.ireturn, 1) := by decide +kernel
theorem dX9_readPart_52 : decode cX9_readPart 52 = .ok (.iload_n 1, 1) := by decide +kernel
theorem dX9_readPart_53 : decode cX9_readPart 53 = .ok (.bipush 119, 2) := by decide +kernel
theorem dX9_readPart_55 : decode cX9_readPart 55 = .ok (.if_icmp .ne 12, 3) := by decide +kernel
theorem dX9_readPart_58 : decode cX9_readPart 58 = .ok (.aload_n 0, 1) := by decide +kernel
theorem dX9_readPart_59 : decode cX9_readPart 59 = .ok (.bipush 61, 2) := by decide +kernel
theorem dX9_readPart_61 : decode cX9_readPart 61 = .ok (.bipush 120, 2) := by decide +kernel
theorem dX9_readPart_63 : decode cX9_readPart 63 = .ok (.invokevirtual 90, 3) := by decide +kernel
theorem dX9_readPart_66 : decode cX9_readPart 66 = .ok (.ireturn, 1) := by decide +kernel
theorem dX9_readPart_67 : decode cX9_readPart 67 = .ok (.aload_n 0, 1) := by decide +kernel
theorem dX9_readPart_68 : decode cX9_readPart 68 = .ok (.iload_n 1, 1) := by decide +kernel
theorem dX9_readPart_69 : decode cX9_readPart 69 = .ok (.invokevirtual 30, 3) := by decide +kernel
theorem dX9_readPart_72 : decode cX9_readPart 72 = .ok (.ireturn, 1) := by decide +kernel
theorem dX9_readNumber_0 : decode cX9_readNumber 0 = .ok (.aload_n 0, 1) := by decide +kernel
theorem dX9_readNumber_1 : decode cX9_readNumber 1 = .ok (.aload_n 0, 1) := by decide +kernel
theorem dX9_readNumber_2 : decode cX9_readNumber 2 = .ok (.getfield 23, 3) := by decide +kernel
theorem dX9_readNumber_5 : decode cX9_readNumber 5 = .ok (.invokevirtual 94, 3) := by decide +kernel
theorem dX9_readNumber_8 : decode cX9_readNumber 8 = .ok (.ifCond .ne 5, 3) := by decide +kernel
theorem dX9_readNumber_11 : decode cX9_readNumber 11 = .ok (.iconst 0, 1) := by decide +kernel
theorem dX9_readNumber_12 : decode cX9_readNumber 12 = .ok (.ireturn, 1) := by decide +kernel
theorem dX9_readNumber_13 : decode cX9_readNumber 13 = .ok (.aload_n 0, 1) := by decide +kernel
theorem dX9_readNumber_14 : decode cX9_readNumber 14 = .ok (.aload_n 0, 1) := by decide +kernel
theorem dX9_readNumber_15 : decode cX9_readNumber 15 = .ok (.getfield 23, 3) := by decide +kernel
theorem dX9_readNumber_18 : decode cX9_readNumber 18 = .ok (.invokevirtual 98, 3) := by decide +kernel
theorem dX9_readNumber_21 : decode cX9_readNumber 21 = .ok (.istore_n 1, 1) := by decide +kernel
theorem dX9_readNumber_22 : decode cX9_readNumber 22 = .ok (.aload_n 0, 1) := by decide +kernel
theorem dX9_readNumber_23 : decode cX9_readNumber 23 = .ok (.dup, 1) := by decide +kernel
theorem dX9_readNumber_24 : decode cX9_readNumber 24 = .ok (.getfield 23, 3) := by decide +kernel
theorem dX9_readNumber_27 : decode cX9_readNumber 27 = .ok (.iconst 1, 1) := by decide +kernel
theorem dX9_readNumber_28 : decode cX9_readNumber 28 = .ok (.iadd, 1) := by decide +kernel
theorem dX9_readNumber_29 : decode cX9_readNumber 29 = .ok (.putfield 23, 3) := by decide +kernel
theorem dX9_readNumber_32 : decode cX9_readNumber 32 = .ok (.aload_n 0, 1) := by decide +kernel
theorem dX9_readNumber_33 : decode cX9_readNumber 33 = .ok (.aload_n 0, 1) := by decide +kernel
theorem dX9_readNumber_34 : decode cX9_readNumber 34 = .ok (.getfield 23, 3) := by decide +kernel
theorem dX9_readNumber_37 : decode cX9_readNumber 37 = .ok (.invokevirtual 94, 3) := by decide +kernel
theorem dX9_readNumber_40 : decode cX9_readNumber 40 = .ok (.ifCond .eq 27, 3) := by decide +kernel
theorem dX9_readNumber_43 : decode cX9_readNumber 43 = .ok (.bipush 10, 2) := by decide +kernel
theorem dX9_readNumber_45 : decode cX9_readNumber 45 = .ok (.iload_n 1, 1) := by decide +kernel
theorem dX9_readNumber_46 : decode cX9_readNumber 46 = .ok (.imul, 1) := by decide +kernel
theorem dX9_readNumber_47 : decode cX9_readNumber 47 = .ok (.aload_n 0, 1) := by decide +kernel
theorem dX9_readNumber_48 : decode cX9_readNumber 48 = .ok (.aload_n 0, 1) := by decide +kernel
theorem dX9_readNumber_49 : decode cX9_readNumber 49 = .ok (.getfield 23, 3) := by decide +kernel
theorem dX9_readNumber_52 : decode cX9_readNumber 52 = .ok (.invokevirtual 98, 3) := by decide +kernel
theorem dX9_readNumber_55 : decode cX9_readNumber 55 = .ok (.iadd, 1) := by decide +kernel
theorem dX9_readNumber_56 : decode cX9_readNumber 56 = .ok (.istore_n 1, 1) := by decide +kernel
theorem dX9_readNumber_57 : decode cX9_readNumber 57 = .ok (.aload_n 0, 1) := by decide +kernel
theorem dX9_readNumber_58 : decode cX9_readNumber 58 = .ok (.dup, 1) := by decide +kernel
theorem dX9_readNumber_59 : decode cX9_readNumber 59 = .ok (.getfield 23, 3) := by decide +kernel
theorem dX9_readNumber_62 : decode cX9_readNumber 62 = .ok (.iconst 1, 1) := by decide +kernel
theorem dX9_readNumber_63 : decode cX9_readNumber 63 = .ok (.iadd, 1) := by decide +kernel
theorem dX9_readNumber_64 : decode cX9_readNumber 64 = .ok (.putfield 23, 3) := by decide +kernel
theorem dX9_readNumber_67 : decode cX9_readNumber 67 = .ok (.aload_n 0, 1) := by decide +kernel
theorem dX9_readNumber_68 : decode cX9_readNumber 68 = .ok (.iload_n 1, 1) := by decide +kernel
theorem dX9_readNumber_69 : decode cX9_readNumber 69 = .ok (.invokevirtual 102, 3) := by decide +kernel
theorem dX9_readNumber_72 : decode cX9_readNumber 72 = .ok (.iconst 1, 1) := by decide +kernel
theorem dX9_readNumber_73 : decode cX9_readNumber 73 = .ok (.ireturn, 1) := by decide +kernel
theorem dX9_readDigit_0 : decode cX9_readDigit 0 = .ok (.aload_n 0, 1) := by decide +kernel
theorem dX9_readDigit_1 : decode cX9_readDigit 1 = .ok (.aload_n 0, 1) := by decide +kernel
theorem dX9_readDigit_2 : decode cX9_readDigit 2 = .ok (.getfield 23, 3) := by decide +kernel
theorem dX9_readDigit_5 : decode cX9_readDigit 5 = .ok (.invokevirtual 94, 3) := by decide +kernel
theorem dX9_readDigit_8 : decode cX9_readDigit 8 = .ok (.ifCond .ne 5, 3) := by decide +kernel
theorem dX9_readDigit_11 : decode cX9_readDigit 11 = .ok (.iconst 0, 1) := by decide +kernel
theorem dX9_readDigit_12 : decode cX9_readDigit 12 = .ok (.ireturn, 1) := by decide +kernel
theorem dX9_readDigit_13 : decode cX9_readDigit 13 = .ok (.aload_n 0, 1) := by decide +kernel
theorem dX9_readDigit_14 : decode cX9_readDigit 14 = .ok (.aload_n 0, 1) := by decide +kernel
theorem dX9_readDigit_15 : decode cX9_readDigit 15 = .ok (.aload_n 0, 1) := by decide +kernel
theorem dX9_readDigit_16 : decode cX9_readDigit 16 = .ok (.getfield 23, 3) := by decide +kernel
theorem dX9_readDigit_19 : decode cX9_readDigit 19 = .ok (.invokevirtual 98, 3) := by decide +kernel
theorem dX9_readDigit_22 : decode cX9_readDigit 22 = .ok (.invokevirtual 102, 3) := by decide +kernel
theorem dX9_readDigit_25 : decode cX9_readDigit 25 = .ok (.aload_n 0, 1) := by decide +kernel
theorem dX9_readDigit_26 : decode cX9_readDigit 26 = .ok (.dup, 1) := by decide +kernel
theorem dX9_readDigit_27 : decode cX9_readDigit 27 = .ok (.getfield 23, 3) := by decide +kernel
theorem dX9_readDigit_30 : decode cX9_readDigit 30 = .ok (.iconst 1, 1) := by decide +kernel
theorem dX9_readDigit_31 : decode cX9_readDigit 31 = .ok (.iadd, 1) := by decide +kernel
theorem dX9_readDigit_32 : decode cX9_readDigit 32 = .ok (.putfield 23, 3) := by decide +kernel
theorem dX9_readDigit_35 : decode cX9_readDigit 35 = .ok (.iconst 1, 1) := by decide +kernel
theorem dX9_readDigit_36 : decode cX9_readDigit 36 = .ok (.ireturn, 1) := by decide +kernel
theorem dX9_readChoice_0 : decode cX9_readChoice 0 = .ok (.aload_n 0, 1) := by decide +kernel
theorem dX9_readChoice_1 : decode cX9_readChoice 1 = .ok (.iload_n 1, 1) := by decide +kernel
theorem dX9_readChoice_2 : decode cX9_readChoice 2 = .ok (.invokevirtual 30, 3) := by decide +kernel
theorem dX9_readChoice_5 : decode cX9_readChoice 5 = .ok (.ifCond .eq 10, 3) := by decide +kernel
theorem dX9_readChoice_8 : decode cX9_readChoice 8 = .ok (.aload_n 0, 1) := by decide +kernel
theorem dX9_readChoice_9 : decode cX9_readChoice 9 = .ok (.iconst 1, 1) := by decide +kernel
theorem dX9_readChoice_10 : decode cX9_readChoice 10 = .ok (.invokevirtual 102, 3) := by decide +kernel
theorem dX9_readChoice_13 : decode cX9_readChoice 13 = .ok (.iconst 1, 1) := by decide +kernel
theorem dX9_readChoice_14 : decode cX9_readChoice 14 = .ok (.ireturn, 1) := by decide +kernel
theorem dX9_readChoice_15 : decode cX9_readChoice 15 = .ok (.aload_n 0, 1) := by decide +kernel
theorem dX9_readChoice_16 : decode cX9_readChoice 16 = .ok (.iload_n 2, 1) := by decide +kernel
theorem dX9_readChoice_17 : decode cX9_readChoice 17 = .ok (.invokevirtual 30, 3) := by decide +kernel
theorem dX9_readChoice_20 : decode cX9_readChoice 20 = .ok (.ifCond .eq 10, 3) := by decide +kernel
theorem dX9_readChoice_23 : decode cX9_readChoice 23 = .ok (.aload_n 0, 1) := by decide +kernel
theorem dX9_readChoice_24 : decode cX9_readChoice 24 = .ok (.iconst 0, 1) := by decide +kernel
theorem dX9_readChoice_25 : decode cX9_readChoice 25 = .ok (.invokevirtual 102, 3) := by decide +kernel
theorem dX9_readChoice_28 : decode cX9_readChoice 28 = .ok (.iconst 1, 1) := by decide +kernel
theorem dX9_readChoice_29 : decode cX9_readChoice 29 = .ok (.ireturn, 1) := by decide +kernel
theorem dX9_readChoice_30 : decode cX9_readChoice 30 = .ok (.iconst 0, 1) := by decide +kernel
theorem dX9_readChoice_31 : decode cX9_readChoice 31 = .ok (.ireturn, 1) := by decide +kernel
theorem dX9_readSign_0 : decode cX9_readSign 0 = .ok (.aload_n 0, 1) := by decide +kernel
theorem dX9_readSign_1 : decode cX9_readSign 1 = .ok (.aload_n 0, 1) := by decide +kernel
theorem dX9_readSign_2 : decode cX9_readSign 2 = .ok (.getfield 23, 3) := by decide +kernel
theorem dX9_readSign_5 : decode cX9_readSign 5 = .ok (.iload_n 1, 1) := by decide +kernel
theorem dX9_readSign_6 : decode cX9_readSign 6 = .ok (.invokevirtual 80, 3) := by decide +kernel
theorem dX9_readSign_9 : decode cX9_readSign 9 = .ok (.ifCond .ne 5, 3) := by decide +kernel
theorem dX9_readSign_12 : decode cX9_readSign 12 = .ok (.iconst 0, 1) := by decide +kernel
theorem dX9_readSign_13 : decode cX9_readSign 13 = .ok (.ireturn, 1) := by decide +kernel
theorem dX9_readSign_14 : decode cX9_readSign 14 = .ok (.aload_n 0, 1) := by decide +kernel
theorem dX9_readSign_15 : decode cX9_readSign 15 = .ok (.dup, 1) := by decide +kernel
theorem dX9_readSign_16 : decode cX9_readSign 16 = .ok (.getfield 23, 3) := by decide +kernel
theorem dX9_readSign_19 : decode cX9_readSign 19 = .ok (.iconst 1, 1) := by decide +kernel
theorem dX9_readSign_20 : decode cX9_readSign 20 = .ok (.iadd, 1) := by decide +kernel
theorem dX9_readSign_21 : decode cX9_readSign 21 = .ok (.putfield 23, 3) := by decide +kernel
theorem dX9_readSign_24 : decode cX9_readSign 24 = .ok (.iconst 1, 1) := by decide +kernel
theorem dX9_readSign_25 : decode cX9_readSign 25 = .ok (.ireturn, 1) := by decide +kernel
theorem dX9_isSignAt_0 : decode cX9_isSignAt 0 = .ok (.iload_n 1, 1) := by decide +kernel
theorem dX9_isSignAt_1 : decode cX9_isSignAt 1 = .ok (.ifCond .lt 25, 3) := by decide +kernel
theorem dX9_isSignAt_4 : decode cX9_isSignAt 4 = .ok (.iload_n 1, 1) := by decide +kernel
theorem dX9_isSignAt_5 : decode cX9_isSignAt 5 = .ok (.aload_n 0, 1) := by decide +kernel
theorem dX9_isSignAt_6 : decode cX9_isSignAt 6 = .ok (.getfield 19, 3) := by decide +kernel
theorem dX9_isSignAt_9 : decode cX9_isSignAt 9 = .ok (.if_icmp .ge 17, 3) := by decide +kernel
theorem dX9_isSignAt_12 : decode cX9_isSignAt 12 = .ok (.aload_n 0, 1) := by decide +kernel
theorem dX9_isSignAt_13 : decode cX9_isSignAt 13 = .ok (.getfield 9, 3) := by decide +kernel
theorem dX9_isSignAt_16 : decode cX9_isSignAt 16 = .ok (.iload_n 1, 1) := by decide +kernel
theorem dX9_isSignAt_17 : decode cX9_isSignAt 17 = .ok (.caload, 1) := by decide +kernel
theorem dX9_isSignAt_18 : decode cX9_isSignAt 18 = .ok (.iload_n 2, 1) := by decide +kernel
theorem dX9_isSignAt_19 : decode cX9_isSignAt 19 = .ok (.if_icmp .ne 7, 3) := by decide +kernel
theorem dX9_isSignAt_22 : decode cX9_isSignAt 22 = .ok (.iconst 1, 1) := by decide +kernel
theorem dX9_isSignAt_23 : decode cX9_isSignAt 23 = .ok (.goto 4, 3) := by decide +kernel
theorem dX9_isSignAt_26 : decode cX9_isSignAt 26 = .ok (.iconst 0, 1) := by decide +kernel
theorem dX9_isSignAt_27 : decode cX9_isSignAt 27 = .ok (.ireturn, 1) := by decide +kernel
theorem dX9_isDigitAt_0 : decode cX9_isDigitAt 0 = .ok (.iload_n 1, 1) := by decide +kernel
theorem dX9_isDigitAt_1 : decode cX9_isDigitAt 1 = .ok (.ifCond .lt 37, 3) := by decide +kernel
theorem dX9_isDigitAt_4 : decode cX9_isDigitAt 4 = .ok (.iload_n 1, 1) := by decide +kernel
theorem dX9_isDigitAt_5 : decode cX9_isDigitAt 5 = .ok (.aload_n 0, 1) := by decide +kernel
theorem dX9_isDigitAt_6 : decode cX9_isDigitAt 6 = .ok (.getfield 19, 3) := by decide +kernel
theorem dX9_isDigitAt_9 : decode cX9_isDigitAt 9 = .ok (.if_icmp .ge 29, 3) := by decide +kernel
theorem dX9_isDigitAt_12 : decode cX9_isDigitAt 12 = .ok (.aload_n 0, 1) := by decide +kernel
theorem dX9_isDigitAt_13 : decode cX9_isDigitAt 13 = .ok (.getfield 9, 3) := by decide +kernel
theorem dX9_isDigitAt_16 : decode cX9_isDigitAt 16 = .ok (.iload_n 1, 1) := by decide +kernel
theorem dX9_isDigitAt_17 : decode cX9_isDigitAt 17 = .ok (.caload, 1) := by decide +kernel
theorem dX9_isDigitAt_18 : decode cX9_isDigitAt 18 = .ok (.bipush 48, 2) := by decide +kernel
theorem dX9_isDigitAt_20 : decode cX9_isDigitAt 20 = .ok (.if_icmp .lt 18, 3) := by decide +kernel
theorem dX9_isDigitAt_23 : decode cX9_isDigitAt 23 = .ok (.aload_n 0, 1) := by decide +kernel
theorem dX9_isDigitAt_24 : decode cX9_isDigitAt 24 = .ok (.getfield 9, 3) := by decide +kernel
theorem dX9_isDigitAt_27 : decode cX9_isDigitAt 27 = .ok (.iload_n 1, 1) := by decide +kernel
theorem dX9_isDigitAt_28 : decode cX9_isDigitAt 28 = .ok (.caload, 1) := by decide +kernel
theorem dX9_isDigitAt_29 : decode cX9_isDigitAt 29 = .ok (.bipush 57, 2) := by decide +kernel
theorem dX9_isDigitAt_31 : decode cX9_isDigitAt 31 = .ok (.if_icmp .gt 7, 3) := by decide +kernel
theorem dX9_isDigitAt_34 : decode cX9_isDigitAt 34 = .ok (.iconst 1, 1) := by decide +kernel
theorem dX9_isDigitAt_35 : decode cX9_isDigitAt 35 = .ok (.goto 4, 3) := by decide +kernel
theorem dX9_isDigitAt_38 : decode cX9_isDigitAt 38 = .ok (.iconst 0, 1) := by decide +kernel
theorem dX9_isDigitAt_39 : decode cX9_isDigitAt 39 = .ok (.ireturn, 1) := by decide +kernel
theorem dX9_digitAt_0 : decode cX9_digitAt 0 = .ok (.aload_n 0, 1) := by decide +kernel
theorem dX9_digitAt_1 : decode cX9_digitAt 1 = .ok (.iload_n 1, 1) := by decide +kernel
theorem dX9_digitAt_2 : decode cX9_digitAt 2 = .ok (.invokevirtual 94, 3) := by decide +kernel
theorem dX9_digitAt_5 : decode cX9_digitAt 5 = .ok (.ifCond .eq 15, 3) := by decide +kernel
theorem dX9_digitAt_8 : decode cX9_digitAt 8 = .ok (.aload_n 0, 1) := by decide +kernel
theorem dX9_digitAt_9 : decode cX9_digitAt 9 = .ok (.getfield 9, 3) := by decide +kernel
theorem dX9_digitAt_12 : decode cX9_digitAt 12 = .ok (.iload_n 1, 1) := by decide +kernel
theorem dX9_digitAt_13 : decode cX9_digitAt 13 = .ok (.caload, 1) := by decide +kernel
theorem dX9_digitAt_14 : decode cX9_digitAt 14 = .ok (.bipush 48, 2) := by decide +kernel
theorem dX9_digitAt_16 : decode cX9_digitAt 16 = .ok (.isub, 1) := by decide +kernel
theorem dX9_digitAt_17 : decode cX9_digitAt 17 = .ok (.goto 4, 3) := by decide +kernel
theorem dX9_digitAt_20 : decode cX9_digitAt 20 = .ok (.iconst 0, 1) := by decide +kernel
theorem dX9_digitAt_21 : decode cX9_digitAt 21 = .ok (.ireturn, 1) := by decide +kernel
theorem dX9_give_0 : decode cX9_give 0 = .ok (.aload_n 0, 1) := by decide +kernel
theorem dX9_give_1 : decode cX9_give 1 = .ok (.getfield 34, 3) := by decide +kernel
theorem dX9_give_4 : decode cX9_give 4 = .ok (.aload_n 0, 1) := by decide +kernel
theorem dX9_give_5 : decode cX9_give 5 = .ok (.getfield 15, 3) := by decide +kernel
theorem dX9_give_8 : decode cX9_give 8 = .ok (.arraylength, 1) := by decide +kernel
theorem dX9_give_9 : decode cX9_give 9 = .ok (.if_icmp .ge 23, 3) := by decide +kernel
theorem dX9_give_12 : decode cX9_give 12 = .ok (.aload_n 0, 1) := by decide +kernel
theorem dX9_give_13 : decode cX9_give 13 = .ok (.getfield 15, 3) := by decide +kernel
theorem dX9_give_16 : decode cX9_give 16 = .ok (.aload_n 0, 1) := by decide +kernel
theorem dX9_give_17 : decode cX9_give 17 = .ok (.getfield 34, 3) := by decide +kernel
theorem dX9_give_20 : decode cX9_give 20 = .ok (.iload_n 1, 1) := by decide +kernel
theorem dX9_give_21 : decode cX9_give 21 = .ok (.iastore, 1) := by decide +kernel
theorem dX9_give_22 : decode cX9_give 22 = .ok (.aload_n 0, 1) := by decide +kernel
theorem dX9_give_23 : decode cX9_give 23 = .ok (.dup, 1) := by decide +kernel
theorem dX9_give_24 : decode cX9_give 24 = .ok (.getfield 34, 3) := by decide +kernel
theorem dX9_give_27 : decode cX9_give 27 = .ok (.iconst 1, 1) := by decide +kernel
theorem dX9_give_28 : decode cX9_give 28 = .ok (.iadd, 1) := by decide +kernel
theorem dX9_give_29 : decode cX9_give 29 = .ok (.putfield 34, 3) := by decide +kernel
theorem dX9_give_32 : decode cX9_give 32 = .ok (.return_, 1) := by decide +kernel
theorem dX10_init_0 : decode cX10_init 0 = .ok (.aload_n 0, 1) := by decide +kernel
theorem dX10_init_1 : decode cX10_init 1 = .ok (.invokespecial 1, 3) := by decide +kernel
theorem dX10_init_4 : decode cX10_init 4 = .ok (.aload_n 0, 1) := by decide +kernel
theorem dX10_init_5 : decode cX10_init 5 = .ok (.new 7, 3) := by decide +kernel
theorem dX10_init_8 : decode cX10_init 8 = .ok (.dup, 1) := by decide +kernel
theorem dX10_init_9 : decode cX10_init 9 = .ok (.invokespecial 9, 3) := by decide +kernel
theorem dX10_init_12 : decode cX10_init 12 = .ok (.putfield 10, 3) := by decide +kernel
theorem dX10_init_15 : decode cX10_init 15 = .ok (.aload_n 0, 1) := by decide +kernel
theorem dX10_init_16 : decode cX10_init 16 = .ok (.new 16, 3) := by decide +kernel
theorem dX10_init_19 : decode cX10_init 19 = .ok (.dup, 1) := by decide +kernel
theorem dX10_init_20 : decode cX10_init 20 = .ok (.invokespecial 18, 3) := by decide +kernel
theorem dX10_init_23 : decode cX10_init 23 = .ok (.putfield 19, 3) := by decide +kernel
theorem dX10_init_26 : decode cX10_init 26 = .ok (.return_, 1) := by decide +kernel
theorem dX10_copyFrom_0 : decode cX10_copyFrom 0 = .ok (.aload_n 0, 1) := by decide +kernel
theorem dX10_copyFrom_1 : decode cX10_copyFrom 1 = .ok (.getfield 10, 3) := by decide +kernel
theorem dX10_copyFrom_4 : decode cX10_copyFrom 4 = .ok (.aload_n 1, 1) := by decide +kernel
theorem dX10_copyFrom_5 : decode cX10_copyFrom 5 = .ok (.getfield 10, 3) := by decide +kernel
theorem dX10_copyFrom_8 : decode cX10_copyFrom 8 = .ok (.invokevirtual 23, 3) := by decide +kernel
theorem dX10_copyFrom_11 : decode cX10_copyFrom 11 = .ok (.aload_n 0, 1) := by decide +kernel
theorem dX10_copyFrom_12 : decode cX10_copyFrom 12 = .ok (.getfield 19, 3) := by decide +kernel
theorem dX10_copyFrom_15 : decode cX10_copyFrom 15 = .ok (.aload_n 1, 1) := by decide +kernel
theorem dX10_copyFrom_16 : decode cX10_copyFrom 16 = .ok (.getfield 19, 3) := by decide +kernel
theorem dX10_copyFrom_19 : decode cX10_copyFrom 19 = .ok (.invokevirtual 27, 3) := by decide +kernel
theorem dX10_copyFrom_22 : decode cX10_copyFrom 22 = .ok (.return_, 1) := by decide +kernel
theorem dX11_init_0 : decode cX11_init 0 = .ok (.aload_n 0, 1) := by decide +kernel
theorem dX11_init_1 : decode cX11_init 1 = .ok (.invokespecial 1, 3) := by decide +kernel
theorem dX11_init_4 : decode cX11_init 4 = .ok (.aload_n 0, 1) := by decide +kernel
theorem dX11_init_5 : decode cX11_init 5 = .ok (.new 7, 3) := by decide +kernel
theorem dX11_init_8 : decode cX11_init 8 = .ok (.dup, 1) := by decide +kernel
theorem dX11_init_9 : decode cX11_init 9 = .ok (.invokespecial 9, 3) := by decide +kernel
theorem dX11_init_12 : decode cX11_init 12 = .ok (.putfield 10, 3) := by decide +kernel
theorem dX11_init_15 : decode cX11_init 15 = .ok (.return_, 1) := by decide +kernel
theorem dX11_fewest_0 : decode cX11_fewest 0 = .ok (.iconst (-1), 1) := by decide +kernel
theorem dX11_fewest_1 : decode cX11_fewest 1 = .ok (.istore_n 2, 1) := by decide +kernel
theorem dX11_fewest_2 : decode cX11_fewest 2 = .ok (.iconst 0, 1) := by decide +kernel
theorem dX11_fewest_3 : decode cX11_fewest 3 = .ok (.istore_n 3, 1) := by decide +kernel
theorem dX11_fewest_4 : decode cX11_fewest 4 = .ok (.iload_n 3, 1) := by decide +kernel
theorem dX11_fewest_5 : decode cX11_fewest 5 = .ok (.aload_n 1, 1) := by decide +kernel
theorem dX11_fewest_6 : decode cX11_fewest 6 = .ok (.invokevirtual 16, 3) := by decide +kernel
theorem dX11_fewest_9 : decode cX11_fewest 9 = .ok (.if_icmp .ge 61, 3) := by decide +kernel
theorem dX11_fewest_12 : decode cX11_fewest 12 = .ok (.iload_n 3, 1) := by decide +kernel
theorem dX11_fewest_13 : decode cX11_fewest 13 = .ok (.invokestatic 20, 3) := by decide +kernel
theorem dX11_fewest_16 : decode cX11_fewest 16 = .ok (.istore 4, 2) := by decide +kernel
theorem dX11_fewest_18 : decode cX11_fewest 18 = .ok (.iload_n 2, 1) := by decide +kernel
theorem dX11_fewest_19 : decode cX11_fewest 19 = .ok (.iconst (-1), 1) := by decide +kernel
theorem dX11_fewest_20 : decode cX11_fewest 20 = .ok (.if_icmp .eq 9, 3) := by decide +kernel
theorem dX11_fewest_23 : decode cX11_fewest 23 = .ok (.iload 4, 2) := by decide +kernel
theorem dX11_fewest_25 : decode cX11_fewest 25 = .ok (.iload_n 2, 1) := by decide +kernel
theorem dX11_fewest_26 : decode cX11_fewest 26 = .ok (.if_icmp .ge 38, 3) := by decide +kernel
theorem dX11_fewest_29 : decode cX11_fewest 29 = .ok (.aload_n 0, 1) := by decide +kernel
theorem dX11_fewest_30 : decode cX11_fewest 30 = .ok (.getfield 10, 3) := by decide +kernel
theorem dX11_fewest_33 : decode cX11_fewest 33 = .ok (.aload_n 1, 1) := by decide +kernel
theorem dX11_fewest_34 : decode cX11_fewest 34 = .ok (.iload_n 3, 1) := by decide +kernel
theorem dX11_fewest_35 : decode cX11_fewest 35 = .ok (.invokevirtual 26, 3) := by decide +kernel
theorem dX11_fewest_38 : decode cX11_fewest 38 = .ok (.aload_n 0, 1) := by decide +kernel
theorem dX11_fewest_39 : decode cX11_fewest 39 = .ok (.getfield 10, 3) := by decide +kernel
theorem dX11_fewest_42 : decode cX11_fewest 42 = .ok (.invokevirtual 30, 3) := by decide +kernel
theorem dX11_fewest_45 : decode cX11_fewest 45 = .ok (.pop, 1) := by decide +kernel
theorem dX11_fewest_46 : decode cX11_fewest 46 = .ok (.aload_n 0, 1) := by decide +kernel
theorem dX11_fewest_47 : decode cX11_fewest 47 = .ok (.getfield 10, 3) := by decide +kernel
theorem dX11_fewest_50 : decode cX11_fewest 50 = .ok (.getfield 34, 3) := by decide +kernel
theorem dX11_fewest_53 : decode cX11_fewest 53 = .ok (.ifCond .ne 11, 3) := by decide +kernel
theorem dX11_fewest_56 : decode cX11_fewest 56 = .ok (.iload 4, 2) := by decide +kernel
theorem dX11_fewest_58 : decode cX11_fewest 58 = .ok (.istore_n 2, 1) := by decide +kernel
theorem dX11_fewest_59 : decode cX11_fewest 59 = .ok (.aload_n 0, 1) := by decide +kernel
theorem dX11_fewest_60 : decode cX11_fewest 60 = .ok (.iload_n 3, 1) := by decide +kernel
theorem dX11_fewest_61 : decode cX11_fewest 61 = .ok (.putfield 38, 3) := by decide +kernel
theorem dX11_fewest_64 : decode cX11_fewest 64 = .ok (.iinc 3 1, 3) := by decide +kernel
theorem dX11_fewest_67 : decode cX11_fewest 67 = .ok (.goto (-63), 3) := by decide +kernel
theorem dX11_fewest_70 : decode cX11_fewest 70 = .ok (.iload_n 2, 1) := by decide +kernel
theorem dX11_fewest_71 : decode cX11_fewest 71 = .ok (.ireturn, 1) := by decide +kernel
theorem dX11_fewestByDepth_0 : decode cX11_fewestByDepth 0 = .ok (.iconst 0, 1) := by decide +kernel
theorem dX11_fewestByDepth_1 : decode cX11_fewestByDepth 1 = .ok (.istore_n 2, 1) := by decide +kernel
theorem dX11_fewestByDepth_2 : decode cX11_fewestByDepth 2 = .ok (.iload_n 2, 1) := by decide +kernel
theorem dX11_fewestByDepth_3 : decode cX11_fewestByDepth 3 = .ok (.aload_n 1, 1) := by decide +kernel
theorem dX11_fewestByDepth_4 : decode cX11_fewestByDepth 4 = .ok (.getfield 34, 3) := by decide +kernel
theorem dX11_fewestByDepth_7 : decode cX11_fewestByDepth 7 = .ok (.if_icmp .gt 22, 3) := by decide +kernel
theorem dX11_fewestByDepth_10 : decode cX11_fewestByDepth 10 = .ok (.aload_n 0, 1) := by decide +kernel
theorem dX11_fewestByDepth_11 : decode cX11_fewestByDepth 11 = .ok (.aload_n 1, 1) := by decide +kernel
theorem dX11_fewestByDepth_12 : decode cX11_fewestByDepth 12 = .ok (.iconst 0, 1) := by decide +kernel
theorem dX11_fewestByDepth_13 : decode cX11_fewestByDepth 13 = .ok (.iconst 0, 1) := by decide +kernel
theorem dX11_fewestByDepth_14 : decode cX11_fewestByDepth 14 = .ok (.iload_n 2, 1) := by decide +kernel
theorem dX11_fewestByDepth_15 : decode cX11_fewestByDepth 15 = .ok (.invokestatic 41, 3) := by decide +kernel
theorem dX11_fewestByDepth_18 : decode cX11_fewestByDepth 18 = .ok (.ifCond .eq 5, 3) := by decide +kernel
theorem dX11_fewestByDepth_21 : decode cX11_fewestByDepth 21 = .ok (.iload_n 2, 1) := by decide +kernel
theorem dX11_fewestByDepth_22 : decode cX11_fewestByDepth 22 = .ok (.ireturn, 1) := by decide +kernel
theorem dX11_fewestByDepth_23 : decode cX11_fewestByDepth 23 = .ok (.iinc 2 1, 3) := by decide +kernel
theorem dX11_fewestByDepth_26 : decode cX11_fewestByDepth 26 = .ok (.goto (-24), 3) := by decide +kernel
theorem dX11_fewestByDepth_29 : decode cX11_fewestByDepth 29 = .ok (.iconst (-1), 1) := by decide +kernel
theorem dX11_fewestByDepth_30 : decode cX11_fewestByDepth 30 = .ok (.ireturn, 1) := by decide +kernel
theorem dX11_reaches_0 : decode cX11_reaches 0 = .ok (.iload 4, 2) := by decide +kernel
theorem dX11_reaches_2 : decode cX11_reaches 2 = .ok (.ifCond .gt 36, 3) := by decide +kernel
theorem dX11_reaches_5 : decode cX11_reaches 5 = .ok (.aload_n 0, 1) := by decide +kernel
theorem dX11_reaches_6 : decode cX11_reaches 6 = .ok (.getfield 10, 3) := by decide +kernel
theorem dX11_reaches_9 : decode cX11_reaches 9 = .ok (.aload_n 1, 1) := by decide +kernel
theorem dX11_reaches_10 : decode cX11_reaches 10 = .ok (.iload_n 2, 1) := by decide +kernel
theorem dX11_reaches_11 : decode cX11_reaches 11 = .ok (.invokevirtual 26, 3) := by decide +kernel
theorem dX11_reaches_14 : decode cX11_reaches 14 = .ok (.aload_n 0, 1) := by decide +kernel
theorem dX11_reaches_15 : decode cX11_reaches 15 = .ok (.getfield 10, 3) := by decide +kernel
theorem dX11_reaches_18 : decode cX11_reaches 18 = .ok (.invokevirtual 30, 3) := by decide +kernel
theorem dX11_reaches_21 : decode cX11_reaches 21 = .ok (.pop, 1) := by decide +kernel
theorem dX11_reaches_22 : decode cX11_reaches 22 = .ok (.aload_n 0, 1) := by decide +kernel
theorem dX11_reaches_23 : decode cX11_reaches 23 = .ok (.getfield 10, 3) := by decide +kernel
theorem dX11_reaches_26 : decode cX11_reaches 26 = .ok (.getfield 34, 3) := by decide +kernel
theorem dX11_reaches_29 : decode cX11_reaches 29 = .ok (.ifCond .ne 7, 3) := by decide +kernel
theorem dX11_reaches_32 : decode cX11_reaches 32 = .ok (.iconst 1, 1) := by decide +kernel
theorem dX11_reaches_33 : decode cX11_reaches 33 = .ok (.goto 4, 3) := by decide +kernel
theorem dX11_reaches_36 : decode cX11_reaches 36 = .ok (.iconst 0, 1) := by decide +kernel
theorem dX11_reaches_37 : decode cX11_reaches 37 = .ok (.ireturn, 1) := by decide +kernel
theorem dX11_reaches_38 : decode cX11_reaches 38 = .ok (.iload_n 3, 1) := by decide +kernel
theorem dX11_reaches_39 : decode cX11_reaches 39 = .ok (.istore 5, 2) := by decide +kernel
theorem dX11_reaches_41 : decode cX11_reaches 41 = .ok (.iload 5, 2) := by decide +kernel
theorem dX11_reaches_43 : decode cX11_reaches 43 = .ok (.aload_n 1, 1) := by decide +kernel
theorem dX11_reaches_44 : decode cX11_reaches 44 = .ok (.getfield 34, 3) := by decide +kernel
theorem dX11_reaches_47 : decode cX11_reaches 47 = .ok (.if_icmp .ge 33, 3) := by decide +kernel
theorem dX11_reaches_50 : decode cX11_reaches 50 = .ok (.aload_n 0, 1) := by decide +kernel
theorem dX11_reaches_51 : decode cX11_reaches 51 = .ok (.aload_n 1, 1) := by decide +kernel
theorem dX11_reaches_52 : decode cX11_reaches 52 = .ok (.iload_n 2, 1) := by decide +kernel
theorem dX11_reaches_53 : decode cX11_reaches 53 = .ok (.iconst 1, 1) := by decide +kernel
theorem dX11_reaches_54 : decode cX11_reaches 54 = .ok (.iload 5, 2) := by decide +kernel
theorem dX11_reaches_56 : decode cX11_reaches 56 = .ok (.ishl, 1) := by decide +kernel
theorem dX11_reaches_57 : decode cX11_reaches 57 = .ok (.ior, 1) := by decide +kernel
theorem dX11_reaches_58 : decode cX11_reaches 58 = .ok (.iload 5, 2) := by decide +kernel
theorem dX11_reaches_60 : decode cX11_reaches 60 = .ok (.iconst 1, 1) := by decide +kernel
theorem dX11_reaches_61 : decode cX11_reaches 61 = .ok (.iadd, 1) := by decide +kernel
theorem dX11_reaches_62 : decode cX11_reaches 62 = .ok (.iload 4, 2) := by decide +kernel
theorem dX11_reaches_64 : decode cX11_reaches 64 = .ok (.iconst 1, 1) := by decide +kernel
theorem dX11_reaches_65 : decode cX11_reaches 65 = .ok (.isub, 1) := by decide +kernel
theorem dX11_reaches_66 : decode cX11_reaches 66 = .ok (.invokestatic 41, 3) := by decide +kernel
theorem dX11_reaches_69 : decode cX11_reaches 69 = .ok (.ifCond .eq 5, 3) := by decide +kernel
theorem dX11_reaches_72 : decode cX11_reaches 72 = .ok (.iconst 1, 1) := by decide +kernel
theorem dX11_reaches_73 : decode cX11_reaches 73 = .ok (.ireturn, 1) := by decide +kernel
theorem dX11_reaches_74 : decode cX11_reaches 74 = .ok (.iinc 5 1, 3) := by decide +kernel
theorem dX11_reaches_77 : decode cX11_reaches 77 = .ok (.goto (-36), 3) := by decide +kernel
theorem dX11_reaches_80 : decode cX11_reaches 80 = .ok (.iconst 0, 1) := by decide +kernel
theorem dX11_reaches_81 : decode cX11_reaches 81 = .ok (.ireturn, 1) := by decide +kernel
theorem dX12_init_0 : decode cX12_init 0 = .ok (.aload_n 0, 1) := by decide +kernel
theorem dX12_init_1 : decode cX12_init 1 = .ok (.invokespecial 1, 3) := by decide +kernel
theorem dX12_init_4 : decode cX12_init 4 = .ok (.aload_n 0, 1) := by decide +kernel
theorem dX12_init_5 : decode cX12_init 5 = .ok (.new 7, 3) := by decide +kernel
theorem dX12_init_8 : decode cX12_init 8 = .ok (.dup, 1) := by decide +kernel
theorem dX12_init_9 : decode cX12_init 9 = .ok (.invokespecial 9, 3) := by decide +kernel
theorem dX12_init_12 : decode cX12_init 12 = .ok (.putfield 10, 3) := by decide +kernel
theorem dX12_init_15 : decode cX12_init 15 = .ok (.aload_n 0, 1) := by decide +kernel
theorem dX12_init_16 : decode cX12_init 16 = .ok (.aload_n 0, 1) := by decide +kernel
theorem dX12_init_17 : decode cX12_init 17 = .ok (.getfield 10, 3) := by decide +kernel
theorem dX12_init_20 : decode cX12_init 20 = .ok (.getfield 16, 3) := by decide +kernel
theorem dX12_init_23 : decode cX12_init 23 = .ok (.putfield 20, 3) := by decide +kernel
theorem dX12_init_26 : decode cX12_init 26 = .ok (.aload_n 0, 1) := by decide +kernel
theorem dX12_init_27 : decode cX12_init 27 = .ok (.aload_n 0, 1) := by decide +kernel
theorem dX12_init_28 : decode cX12_init 28 = .ok (.getfield 10, 3) := by decide +kernel
theorem dX12_init_31 : decode cX12_init 31 = .ok (.getfield 21, 3) := by decide +kernel
theorem dX12_init_34 : decode cX12_init 34 = .ok (.putfield 25, 3) := by decide +kernel
theorem dX12_init_37 : decode cX12_init 37 = .ok (.aload_n 0, 1) := by decide +kernel
theorem dX12_init_38 : decode cX12_init 38 = .ok (.new 7, 3) := by decide +kernel
theorem dX12_init_41 : decode cX12_init 41 = .ok (.dup, 1) := by decide +kernel
theorem dX12_init_42 : decode cX12_init 42 = .ok (.invokespecial 9, 3) := by decide +kernel
theorem dX12_init_45 : decode cX12_init 45 = .ok (.putfield 26, 3) := by decide +kernel
theorem dX12_init_48 : decode cX12_init 48 = .ok (.aload_n 0, 1) := by decide +kernel
theorem dX12_init_49 : decode cX12_init 49 = .ok (.new 29, 3) := by decide +kernel
theorem dX12_init_52 : decode cX12_init 52 = .ok (.dup, 1) := by decide +kernel
theorem dX12_init_53 : decode cX12_init 53 = .ok (.invokespecial 31, 3) := by decide +kernel
theorem dX12_init_56 : decode cX12_init 56 = .ok (.putfield 32, 3) := by decide +kernel
theorem dX12_init_59 : decode cX12_init 59 = .ok (.aload_n 0, 1) := by decide +kernel
theorem dX12_init_60 : decode cX12_init 60 = .ok (.new 35, 3) := by decide +kernel
theorem dX12_init_63 : decode cX12_init 63 = .ok (.dup, 1) := by decide +kernel
theorem dX12_init_64 : decode cX12_init 64 = .ok (.invokespecial 37, 3) := by decide +kernel
theorem dX12_init_67 : decode cX12_init 67 = .ok (.putfield 38, 3) := by decide +kernel
theorem dX12_init_70 : decode cX12_init 70 = .ok (.aload_n 0, 1) := by decide +kernel
theorem dX12_init_71 : decode cX12_init 71 = .ok (.new 42, 3) := by decide +kernel
theorem dX12_init_74 : decode cX12_init 74 = .ok (.dup, 1) := by decide +kernel
theorem dX12_init_75 : decode cX12_init 75 = .ok (.invokespecial 44, 3) := by decide +kernel
theorem dX12_init_78 : decode cX12_init 78 = .ok (.putfield 45, 3) := by decide +kernel
theorem dX12_init_81 : decode cX12_init 81 = .ok (.aload_n 0, 1) := by decide +kernel
theorem dX12_init_82 : decode cX12_init 82 = .ok (.new 49, 3) := by decide +kernel
theorem dX12_init_85 : decode cX12_init 85 = .ok (.dup, 1) := by decide +kernel
theorem dX12_init_86 : decode cX12_init 86 = .ok (.invokespecial 51, 3) := by decide +kernel
theorem dX12_init_89 : decode cX12_init 89 = .ok (.putfield 52, 3) := by decide +kernel
theorem dX12_init_92 : decode cX12_init 92 = .ok (.aload_n 0, 1) := by decide +kernel
theorem dX12_init_93 : decode cX12_init 93 = .ok (.new 56, 3) := by decide +kernel
theorem dX12_init_96 : decode cX12_init 96 = .ok (.dup, 1) := by decide +kernel
theorem dX12_init_97 : decode cX12_init 97 = .ok (.invokespecial 58, 3) := by decide +kernel
theorem dX12_init_100 : decode cX12_init 100 = .ok (.putfield 59, 3) := by decide +kernel
theorem dX12_init_103 : decode cX12_init 103 = .ok (.aload_n 0, 1) := by decide +kernel
theorem dX12_init_104 : decode cX12_init 104 = .ok (.new 63, 3) := by decide +kernel
theorem dX12_init_107 : decode cX12_init 107 = .ok (.dup, 1) := by decide +kernel
theorem dX12_init_108 : decode cX12_init 108 = .ok (.invokespecial 65, 3) := by decide +kernel
theorem dX12_init_111 : decode cX12_init 111 = .ok (.putfield 66, 3) := by decide +kernel
theorem dX12_init_114 : decode cX12_init 114 = .ok (.aload_n 0, 1) := by decide +kernel
theorem dX12_init_115 : decode cX12_init 115 = .ok (.new 70, 3) := by decide +kernel
theorem dX12_init_118 : decode cX12_init 118 = .ok (.dup, 1) := by decide +kernel
theorem dX12_init_119 : decode cX12_init 119 = .ok (.invokespecial 72, 3) := by decide +kernel
theorem dX12_init_122 : decode cX12_init 122 = .ok (.putfield 73, 3) := by decide +kernel
theorem dX12_init_125 : decode cX12_init 125 = .ok (.aload_n 0, 1) := by decide +kernel
theorem dX12_init_126 : decode cX12_init 126 = .ok (.iconst (-1), 1) := by decide +kernel
theorem dX12_init_127 : decode cX12_init 127 = .ok (.putfield 77, 3) := by decide +kernel
theorem dX12_init_130 : decode cX12_init 130 = .ok (.aload_n 0, 1) := by decide +kernel
theorem dX12_init_131 : decode cX12_init 131 = .ok (.iconst (-1), 1) := by decide +kernel
theorem dX12_init_132 : decode cX12_init 132 = .ok (.putfield 81, 3) := by decide +kernel
theorem dX12_init_135 : decode cX12_init 135 = .ok (.return_, 1) := by decide +kernel
theorem dX12_addCurl_0 : decode cX12_addCurl 0 = .ok (.aload_n 0, 1) := by decide +kernel
theorem dX12_addCurl_1 : decode cX12_addCurl 1 = .ok (.getfield 38, 3) := by decide +kernel
theorem dX12_addCurl_4 : decode cX12_addCurl 4 = .ok (.aload_n 0, 1) := by decide +kernel
theorem dX12_addCurl_5 : decode cX12_addCurl 5 = .ok (.getfield 10, 3) := by decide +kernel
theorem dX12_addCurl_8 : decode cX12_addCurl 8 = .ok (.invokevirtual 84, 3) := by decide +kernel
theorem dX12_addCurl_11 : decode cX12_addCurl 11 = .ok (.aload_n 0, 1) := by decide +kernel
theorem dX12_addCurl_12 : decode cX12_addCurl 12 = .ok (.aload_n 0, 1) := by decide +kernel
theorem dX12_addCurl_13 : decode cX12_addCurl 13 = .ok (.getfield 20, 3) := by decide +kernel
theorem dX12_addCurl_16 : decode cX12_addCurl 16 = .ok (.iload_n 1, 1) := by decide +kernel
theorem dX12_addCurl_17 : decode cX12_addCurl 17 = .ok (.iload_n 2, 1) := by decide +kernel
theorem dX12_addCurl_18 : decode cX12_addCurl 18 = .ok (.iload_n 3, 1) := by decide +kernel
theorem dX12_addCurl_19 : decode cX12_addCurl 19 = .ok (.invokevirtual 88, 3) := by decide +kernel
theorem dX12_addCurl_22 : decode cX12_addCurl 22 = .ok (.invokevirtual 92, 3) := by decide +kernel
theorem dX12_addCurl_25 : decode cX12_addCurl 25 = .ok (.aload_n 0, 1) := by decide +kernel
theorem dX12_addCurl_26 : decode cX12_addCurl 26 = .ok (.getfield 20, 3) := by decide +kernel
theorem dX12_addCurl_29 : decode cX12_addCurl 29 = .ok (.getfield 96, 3) := by decide +kernel
theorem dX12_addCurl_32 : decode cX12_addCurl 32 = .ok (.iconst 1, 1) := by decide +kernel
theorem dX12_addCurl_33 : decode cX12_addCurl 33 = .ok (.isub, 1) := by decide +kernel
theorem dX12_addCurl_34 : decode cX12_addCurl 34 = .ok (.ireturn, 1) := by decide +kernel
theorem dX12_removeCurl_0 : decode cX12_removeCurl 0 = .ok (.aload_n 0, 1) := by decide +kernel
theorem dX12_removeCurl_1 : decode cX12_removeCurl 1 = .ok (.getfield 38, 3) := by decide +kernel
theorem dX12_removeCurl_4 : decode cX12_removeCurl 4 = .ok (.aload_n 0, 1) := by decide +kernel
theorem dX12_removeCurl_5 : decode cX12_removeCurl 5 = .ok (.getfield 10, 3) := by decide +kernel
theorem dX12_removeCurl_8 : decode cX12_removeCurl 8 = .ok (.invokevirtual 84, 3) := by decide +kernel
theorem dX12_removeCurl_11 : decode cX12_removeCurl 11 = .ok (.aload_n 0, 1) := by decide +kernel
theorem dX12_removeCurl_12 : decode cX12_removeCurl 12 = .ok (.aload_n 0, 1) := by decide +kernel
theorem dX12_removeCurl_13 : decode cX12_removeCurl 13 = .ok (.getfield 20, 3) := by decide +kernel
theorem dX12_removeCurl_16 : decode cX12_removeCurl 16 = .ok (.iload_n 1, 1) := by decide +kernel
theorem dX12_removeCurl_17 : decode cX12_removeCurl 17 = .ok (.invokevirtual 99, 3) := by decide +kernel
theorem dX12_removeCurl_20 : decode cX12_removeCurl 20 = .ok (.invokevirtual 92, 3) := by decide +kernel
theorem dX12_removeCurl_23 : decode cX12_removeCurl 23 = .ok (.aload_n 0, 1) := by decide +kernel
theorem dX12_removeCurl_24 : decode cX12_removeCurl 24 = .ok (.getfield 20, 3) := by decide +kernel
theorem dX12_removeCurl_27 : decode cX12_removeCurl 27 = .ok (.getfield 96, 3) := by decide +kernel
theorem dX12_removeCurl_30 : decode cX12_removeCurl 30 = .ok (.ireturn, 1) := by decide +kernel
theorem dX12_addPoke_0 : decode cX12_addPoke 0 = .ok (.aload_n 0, 1) := by decide +kernel
theorem dX12_addPoke_1 : decode cX12_addPoke 1 = .ok (.getfield 38, 3) := by decide +kernel
theorem dX12_addPoke_4 : decode cX12_addPoke 4 = .ok (.aload_n 0, 1) := by decide +kernel
theorem dX12_addPoke_5 : decode cX12_addPoke 5 = .ok (.getfield 10, 3) := by decide +kernel
theorem dX12_addPoke_8 : decode cX12_addPoke 8 = .ok (.invokevirtual 84, 3) := by decide +kernel
theorem dX12_addPoke_11 : decode cX12_addPoke 11 = .ok (.aload_n 0, 1) := by decide +kernel
theorem dX12_addPoke_12 : decode cX12_addPoke 12 = .ok (.aload_n 0, 1) := by decide +kernel
theorem dX12_addPoke_13 : decode cX12_addPoke 13 = .ok (.getfield 20, 3) := by decide +kernel
theorem dX12_addPoke_16 : decode cX12_addPoke 16 = .ok (.iload_n 1, 1) := by decide +kernel
theorem dX12_addPoke_17 : decode cX12_addPoke 17 = .ok (.iload_n 2, 1) := by decide +kernel
theorem dX12_addPoke_18 : decode cX12_addPoke 18 = .ok (.iload_n 3, 1) := by decide +kernel
theorem dX12_addPoke_19 : decode cX12_addPoke 19 = .ok (.iload 4, 2) := by decide +kernel
theorem dX12_addPoke_21 : decode cX12_addPoke 21 = .ok (.invokevirtual 103, 3) := by decide +kernel
theorem dX12_addPoke_24 : decode cX12_addPoke 24 = .ok (.invokevirtual 92, 3) := by decide +kernel
theorem dX12_addPoke_27 : decode cX12_addPoke 27 = .ok (.aload_n 0, 1) := by decide +kernel
theorem dX12_addPoke_28 : decode cX12_addPoke 28 = .ok (.getfield 20, 3) := by decide +kernel
theorem dX12_addPoke_31 : decode cX12_addPoke 31 = .ok (.getfield 96, 3) := by decide +kernel
theorem dX12_addPoke_34 : decode cX12_addPoke 34 = .ok (.iconst 2, 1) := by decide +kernel
theorem dX12_addPoke_35 : decode cX12_addPoke 35 = .ok (.isub, 1) := by decide +kernel
theorem dX12_addPoke_36 : decode cX12_addPoke 36 = .ok (.ireturn, 1) := by decide +kernel
theorem dX12_removePoke_0 : decode cX12_removePoke 0 = .ok (.aload_n 0, 1) := by decide +kernel
theorem dX12_removePoke_1 : decode cX12_removePoke 1 = .ok (.getfield 38, 3) := by decide +kernel
theorem dX12_removePoke_4 : decode cX12_removePoke 4 = .ok (.aload_n 0, 1) := by decide +kernel
theorem dX12_removePoke_5 : decode cX12_removePoke 5 = .ok (.getfield 10, 3) := by decide +kernel
theorem dX12_removePoke_8 : decode cX12_removePoke 8 = .ok (.invokevirtual 84, 3) := by decide +kernel
theorem dX12_removePoke_11 : decode cX12_removePoke 11 = .ok (.aload_n 0, 1) := by decide +kernel
theorem dX12_removePoke_12 : decode cX12_removePoke 12 = .ok (.aload_n 0, 1) := by decide +kernel
theorem dX12_removePoke_13 : decode cX12_removePoke 13 = .ok (.getfield 20, 3) := by decide +kernel
theorem dX12_removePoke_16 : decode cX12_removePoke 16 = .ok (.iload_n 1, 1) := by decide +kernel
theorem dX12_removePoke_17 : decode cX12_removePoke 17 = .ok (.iload_n 2, 1) := by decide +kernel
theorem dX12_removePoke_18 : decode cX12_removePoke 18 = .ok (.invokevirtual 107, 3) := by decide +kernel
theorem dX12_removePoke_21 : decode cX12_removePoke 21 = .ok (.invokevirtual 92, 3) := by decide +kernel
theorem dX12_removePoke_24 : decode cX12_removePoke 24 = .ok (.aload_n 0, 1) := by decide +kernel
theorem dX12_removePoke_25 : decode cX12_removePoke 25 = .ok (.getfield 20, 3) := by decide +kernel
theorem dX12_removePoke_28 : decode cX12_removePoke 28 = .ok (.getfield 96, 3) := by decide +kernel
theorem dX12_removePoke_31 : decode cX12_removePoke 31 = .ok (.ireturn, 1) := by decide +kernel
theorem dX12_switchCrossing_0 : decode cX12_switchCrossing 0 = .ok (.aload_n 0, 1) := by decide +kernel
theorem dX12_switchCrossing_1 : decode cX12_switchCrossing 1 = .ok (.getfield 38, 3) := by decide +kernel
theorem dX12_switchCrossing_4 : decode cX12_switchCrossing 4 = .ok (.aload_n 0, 1) := by decide +kernel
theorem dX12_switchCrossing_5 : decode cX12_switchCrossing 5 = .ok (.getfield 10, 3) := by decide +kernel
theorem dX12_switchCrossing_8 : decode cX12_switchCrossing 8 = .ok (.invokevirtual 84, 3) := by decide +kernel
theorem dX12_switchCrossing_11 : decode cX12_switchCrossing 11 = .ok (.aload_n 0, 1) := by decide +kernel
theorem dX12_switchCrossing_12 : decode cX12_switchCrossing 12 = .ok (.aload_n 0, 1) := by decide +kernel
theorem dX12_switchCrossing_13 : decode cX12_switchCrossing 13 = .ok (.getfield 20, 3) := by decide +kernel
theorem dX12_switchCrossing_16 : decode cX12_switchCrossing 16 = .ok (.iload_n 1, 1) := by decide +kernel
theorem dX12_switchCrossing_17 : decode cX12_switchCrossing 17 = .ok (.invokevirtual 111, 3) := by decide +kernel
theorem dX12_switchCrossing_20 : decode cX12_switchCrossing 20 = .ok (.invokevirtual 92, 3) := by decide +kernel
theorem dX12_switchCrossing_23 : decode cX12_switchCrossing 23 = .ok (.aload_n 0, 1) := by decide +kernel
theorem dX12_switchCrossing_24 : decode cX12_switchCrossing 24 = .ok (.getfield 20, 3) := by decide +kernel
theorem dX12_switchCrossing_27 : decode cX12_switchCrossing 27 = .ok (.getfield 114, 3) := by decide +kernel
theorem dX12_switchCrossing_30 : decode cX12_switchCrossing 30 = .ok (.iload_n 1, 1) := by decide +kernel
theorem dX12_switchCrossing_31 : decode cX12_switchCrossing 31 = .ok (.baload, 1) := by decide +kernel
theorem dX12_switchCrossing_32 : decode cX12_switchCrossing 32 = .ok (.ireturn, 1) := by decide +kernel
theorem dX12_mirror_0 : decode cX12_mirror 0 = .ok (.aload_n 0, 1) := by decide +kernel
theorem dX12_mirror_1 : decode cX12_mirror 1 = .ok (.getfield 38, 3) := by decide +kernel
theorem dX12_mirror_4 : decode cX12_mirror 4 = .ok (.aload_n 0, 1) := by decide +kernel
theorem dX12_mirror_5 : decode cX12_mirror 5 = .ok (.getfield 10, 3) := by decide +kernel
theorem dX12_mirror_8 : decode cX12_mirror 8 = .ok (.invokevirtual 84, 3) := by decide +kernel
theorem dX12_mirror_11 : decode cX12_mirror 11 = .ok (.aload_n 0, 1) := by decide +kernel
theorem dX12_mirror_12 : decode cX12_mirror 12 = .ok (.aload_n 0, 1) := by decide +kernel
theorem dX12_mirror_13 : decode cX12_mirror 13 = .ok (.getfield 20, 3) := by decide +kernel
theorem dX12_mirror_16 : decode cX12_mirror 16 = .ok (.invokevirtual 118, 3) := by decide +kernel
theorem dX12_mirror_19 : decode cX12_mirror 19 = .ok (.invokevirtual 92, 3) := by decide +kernel
theorem dX12_mirror_22 : decode cX12_mirror 22 = .ok (.aload_n 0, 1) := by decide +kernel
theorem dX12_mirror_23 : decode cX12_mirror 23 = .ok (.getfield 20, 3) := by decide +kernel
theorem dX12_mirror_26 : decode cX12_mirror 26 = .ok (.invokevirtual 122, 3) := by decide +kernel
theorem dX12_mirror_29 : decode cX12_mirror 29 = .ok (.ireturn, 1) := by decide +kernel
theorem dX12_reverse_0 : decode cX12_reverse 0 = .ok (.aload_n 0, 1) := by decide +kernel
theorem dX12_reverse_1 : decode cX12_reverse 1 = .ok (.getfield 38, 3) := by decide +kernel
theorem dX12_reverse_4 : decode cX12_reverse 4 = .ok (.aload_n 0, 1) := by decide +kernel
theorem dX12_reverse_5 : decode cX12_reverse 5 = .ok (.getfield 10, 3) := by decide +kernel
theorem dX12_reverse_8 : decode cX12_reverse 8 = .ok (.invokevirtual 84, 3) := by decide +kernel
theorem dX12_reverse_11 : decode cX12_reverse 11 = .ok (.aload_n 0, 1) := by decide +kernel
theorem dX12_reverse_12 : decode cX12_reverse 12 = .ok (.aload_n 0, 1) := by decide +kernel
theorem dX12_reverse_13 : decode cX12_reverse 13 = .ok (.getfield 20, 3) := by decide +kernel
theorem dX12_reverse_16 : decode cX12_reverse 16 = .ok (.invokevirtual 126, 3) := by decide +kernel
theorem dX12_reverse_19 : decode cX12_reverse 19 = .ok (.invokevirtual 92, 3) := by decide +kernel
theorem dX12_reverse_22 : decode cX12_reverse 22 = .ok (.aload_n 0, 1) := by decide +kernel
theorem dX12_reverse_23 : decode cX12_reverse 23 = .ok (.getfield 20, 3) := by decide +kernel
theorem dX12_reverse_26 : decode cX12_reverse 26 = .ok (.iconst 0, 1) := by decide +kernel
theorem dX12_reverse_27 : decode cX12_reverse 27 = .ok (.invokevirtual 129, 3) := by decide +kernel
theorem dX12_reverse_30 : decode cX12_reverse 30 = .ok (.ireturn, 1) := by decide +kernel
theorem dX12_turn_0 : decode cX12_turn 0 = .ok (.aload_n 0, 1) := by decide +kernel
theorem dX12_turn_1 : decode cX12_turn 1 = .ok (.getfield 38, 3) := by decide +kernel
theorem dX12_turn_4 : decode cX12_turn 4 = .ok (.aload_n 0, 1) := by decide +kernel
theorem dX12_turn_5 : decode cX12_turn 5 = .ok (.getfield 10, 3) := by decide +kernel
theorem dX12_turn_8 : decode cX12_turn 8 = .ok (.invokevirtual 84, 3) := by decide +kernel
theorem dX12_turn_11 : decode cX12_turn 11 = .ok (.aload_n 0, 1) := by decide +kernel
theorem dX12_turn_12 : decode cX12_turn 12 = .ok (.aload_n 0, 1) := by decide +kernel
theorem dX12_turn_13 : decode cX12_turn 13 = .ok (.getfield 20, 3) := by decide +kernel
theorem dX12_turn_16 : decode cX12_turn 16 = .ok (.iload_n 1, 1) := by decide +kernel
theorem dX12_turn_17 : decode cX12_turn 17 = .ok (.invokevirtual 133, 3) := by decide +kernel
theorem dX12_turn_20 : decode cX12_turn 20 = .ok (.invokevirtual 92, 3) := by decide +kernel
theorem dX12_turn_23 : decode cX12_turn 23 = .ok (.aload_n 0, 1) := by decide +kernel
theorem dX12_turn_24 : decode cX12_turn 24 = .ok (.getfield 20, 3) := by decide +kernel
theorem dX12_turn_27 : decode cX12_turn 27 = .ok (.iconst 0, 1) := by decide +kernel
theorem dX12_turn_28 : decode cX12_turn 28 = .ok (.invokevirtual 129, 3) := by decide +kernel
theorem dX12_turn_31 : decode cX12_turn 31 = .ok (.ireturn, 1) := by decide +kernel
theorem dX12_reduce_0 : decode cX12_reduce 0 = .ok (.aload_n 0, 1) := by decide +kernel
theorem dX12_reduce_1 : decode cX12_reduce 1 = .ok (.getfield 20, 3) := by decide +kernel
theorem dX12_reduce_4 : decode cX12_reduce 4 = .ok (.getfield 96, 3) := by decide +kernel
theorem dX12_reduce_7 : decode cX12_reduce 7 = .ok (.istore_n 1, 1) := by decide +kernel
theorem dX12_reduce_8 : decode cX12_reduce 8 = .ok (.aload_n 0, 1) := by decide +kernel
theorem dX12_reduce_9 : decode cX12_reduce 9 = .ok (.getfield 38, 3) := by decide +kernel
theorem dX12_reduce_12 : decode cX12_reduce 12 = .ok (.aload_n 0, 1) := by decide +kernel
theorem dX12_reduce_13 : decode cX12_reduce 13 = .ok (.getfield 10, 3) := by decide +kernel
theorem dX12_reduce_16 : decode cX12_reduce 16 = .ok (.invokevirtual 84, 3) := by decide +kernel
theorem dX12_reduce_19 : decode cX12_reduce 19 = .ok (.aload_n 0, 1) := by decide +kernel
theorem dX12_reduce_20 : decode cX12_reduce 20 = .ok (.aload_n 0, 1) := by decide +kernel
theorem dX12_reduce_21 : decode cX12_reduce 21 = .ok (.getfield 20, 3) := by decide +kernel
theorem dX12_reduce_24 : decode cX12_reduce 24 = .ok (.invokevirtual 136, 3) := by decide +kernel
theorem dX12_reduce_27 : decode cX12_reduce 27 = .ok (.invokevirtual 92, 3) := by decide +kernel
theorem dX12_reduce_30 : decode cX12_reduce 30 = .ok (.iload_n 1, 1) := by decide +kernel
theorem dX12_reduce_31 : decode cX12_reduce 31 = .ok (.aload_n 0, 1) := by decide +kernel
theorem dX12_reduce_32 : decode cX12_reduce 32 = .ok (.getfield 20, 3) := by decide +kernel
theorem dX12_reduce_35 : decode cX12_reduce 35 = .ok (.getfield 96, 3) := by decide +kernel
theorem dX12_reduce_38 : decode cX12_reduce 38 = .ok (.isub, 1) := by decide +kernel
theorem dX12_reduce_39 : decode cX12_reduce 39 = .ok (.ireturn, 1) := by decide +kernel
theorem dX12_crossingCount_0 : decode cX12_crossingCount 0 = .ok (.aload_n 0, 1) := by decide +kernel
theorem dX12_crossingCount_1 : decode cX12_crossingCount 1 = .ok (.getfield 20, 3) := by decide +kernel
theorem dX12_crossingCount_4 : decode cX12_crossingCount 4 = .ok (.getfield 96, 3) := by decide +kernel
theorem dX12_crossingCount_7 : decode cX12_crossingCount 7 = .ok (.ireturn, 1) := by decide +kernel
theorem dX12_crossingAt_0 : decode cX12_crossingAt 0 = .ok (.aload_n 0, 1) := by decide +kernel
theorem dX12_crossingAt_1 : decode cX12_crossingAt 1 = .ok (.iload_n 1, 1) := by decide +kernel
theorem dX12_crossingAt_2 : decode cX12_crossingAt 2 = .ok (.invokevirtual 139, 3) := by decide +kernel
theorem dX12_crossingAt_5 : decode cX12_crossingAt 5 = .ok (.aload_n 0, 1) := by decide +kernel
theorem dX12_crossingAt_6 : decode cX12_crossingAt 6 = .ok (.getfield 20, 3) := by decide +kernel
theorem dX12_crossingAt_9 : decode cX12_crossingAt 9 = .ok (.iload_n 1, 1) := by decide +kernel
theorem dX12_crossingAt_10 : decode cX12_crossingAt 10 = .ok (.invokevirtual 129, 3) := by decide +kernel
theorem dX12_crossingAt_13 : decode cX12_crossingAt 13 = .ok (.ireturn, 1) := by decide +kernel
theorem dX12_isOver_0 : decode cX12_isOver 0 = .ok (.aload_n 0, 1) := by decide +kernel
theorem dX12_isOver_1 : decode cX12_isOver 1 = .ok (.iload_n 1, 1) := by decide +kernel
theorem dX12_isOver_2 : decode cX12_isOver 2 = .ok (.invokevirtual 139, 3) := by decide +kernel
theorem dX12_isOver_5 : decode cX12_isOver 5 = .ok (.aload_n 0, 1) := by decide +kernel
theorem dX12_isOver_6 : decode cX12_isOver 6 = .ok (.getfield 20, 3) := by decide +kernel
theorem dX12_isOver_9 : decode cX12_isOver 9 = .ok (.iload_n 1, 1) := by decide +kernel
theorem dX12_isOver_10 : decode cX12_isOver 10 = .ok (.invokevirtual 143, 3) := by decide +kernel
theorem dX12_isOver_13 : decode cX12_isOver 13 = .ok (.ireturn, 1) := by decide +kernel
theorem dX12_isPositive_0 : decode cX12_isPositive 0 = .ok (.aload_n 0, 1) := by decide +kernel
theorem dX12_isPositive_1 : decode cX12_isPositive 1 = .ok (.iload_n 1, 1) := by decide +kernel
theorem dX12_isPositive_2 : decode cX12_isPositive 2 = .ok (.invokevirtual 147, 3) := by decide +kernel
theorem dX12_isPositive_5 : decode cX12_isPositive 5 = .ok (.aload_n 0, 1) := by decide +kernel
theorem dX12_isPositive_6 : decode cX12_isPositive 6 = .ok (.getfield 20, 3) := by decide +kernel
theorem dX12_isPositive_9 : decode cX12_isPositive 9 = .ok (.getfield 114, 3) := by decide +kernel
theorem dX12_isPositive_12 : decode cX12_isPositive 12 = .ok (.iload_n 1, 1) := by decide +kernel
theorem dX12_isPositive_13 : decode cX12_isPositive 13 = .ok (.baload, 1) := by decide +kernel
theorem dX12_isPositive_14 : decode cX12_isPositive 14 = .ok (.ireturn, 1) := by decide +kernel
theorem dX12_overPosition_0 : decode cX12_overPosition 0 = .ok (.aload_n 0, 1) := by decide +kernel
theorem dX12_overPosition_1 : decode cX12_overPosition 1 = .ok (.iload_n 1, 1) := by decide +kernel
theorem dX12_overPosition_2 : decode cX12_overPosition 2 = .ok (.invokevirtual 147, 3) := by decide +kernel
theorem dX12_overPosition_5 : decode cX12_overPosition 5 = .ok (.aload_n 0, 1) := by decide +kernel
theorem dX12_overPosition_6 : decode cX12_overPosition 6 = .ok (.getfield 20, 3) := by decide +kernel
theorem dX12_overPosition_9 : decode cX12_overPosition 9 = .ok (.getfield 150, 3) := by decide +kernel
theorem dX12_overPosition_12 : decode cX12_overPosition 12 = .ok (.iload_n 1, 1) := by decide +kernel
theorem dX12_overPosition_13 : decode cX12_overPosition 13 = .ok (.iaload, 1) := by decide +kernel
theorem dX12_overPosition_14 : decode cX12_overPosition 14 = .ok (.ireturn, 1) := by decide +kernel
theorem dX12_underPosition_0 : decode cX12_underPosition 0 = .ok (.aload_n 0, 1) := by decide +kernel
theorem dX12_underPosition_1 : decode cX12_underPosition 1 = .ok (.iload_n 1, 1) := by decide +kernel
theorem dX12_underPosition_2 : decode cX12_underPosition 2 = .ok (.invokevirtual 147, 3) := by decide +kernel
theorem dX12_underPosition_5 : decode cX12_underPosition 5 = .ok (.aload_n 0, 1) := by decide +kernel
theorem dX12_underPosition_6 : decode cX12_underPosition 6 = .ok (.getfield 20, 3) := by decide +kernel
theorem dX12_underPosition_9 : decode cX12_underPosition 9 = .ok (.getfield 154, 3) := by decide +kernel
theorem dX12_underPosition_12 : decode cX12_underPosition 12 = .ok (.iload_n 1, 1) := by decide +kernel
theorem dX12_underPosition_13 : decode cX12_underPosition 13 = .ok (.iaload, 1) := by decide +kernel
theorem dX12_underPosition_14 : decode cX12_underPosition 14 = .ok (.ireturn, 1) := by decide +kernel
theorem dX12_writhe_0 : decode cX12_writhe 0 = .ok (.aload_n 0, 1) := by decide +kernel
theorem dX12_writhe_1 : decode cX12_writhe 1 = .ok (.getfield 20, 3) := by decide +kernel
theorem dX12_writhe_4 : decode cX12_writhe 4 = .ok (.invokevirtual 122, 3) := by decide +kernel
theorem dX12_writhe_7 : decode cX12_writhe 7 = .ok (.ireturn, 1) := by decide +kernel
theorem dX12_isCurl_0 : decode cX12_isCurl 0 = .ok (.aload_n 0, 1) := by decide +kernel
theorem dX12_isCurl_1 : decode cX12_isCurl 1 = .ok (.iload_n 1, 1) := by decide +kernel
theorem dX12_isCurl_2 : decode cX12_isCurl 2 = .ok (.invokevirtual 147, 3) := by decide +kernel
theorem dX12_isCurl_5 : decode cX12_isCurl 5 = .ok (.aload_n 0, 1) := by decide +kernel
theorem dX12_isCurl_6 : decode cX12_isCurl 6 = .ok (.getfield 20, 3) := by decide +kernel
theorem dX12_isCurl_9 : decode cX12_isCurl 9 = .ok (.iload_n 1, 1) := by decide +kernel
theorem dX12_isCurl_10 : decode cX12_isCurl 10 = .ok (.invokevirtual 157, 3) := by decide +kernel
theorem dX12_isCurl_13 : decode cX12_isCurl 13 = .ok (.ireturn, 1) := by decide +kernel
theorem dX12_isPoke_0 : decode cX12_isPoke 0 = .ok (.aload_n 0, 1) := by decide +kernel
theorem dX12_isPoke_1 : decode cX12_isPoke 1 = .ok (.iload_n 1, 1) := by decide +kernel
theorem dX12_isPoke_2 : decode cX12_isPoke 2 = .ok (.invokevirtual 147, 3) := by decide +kernel
theorem dX12_isPoke_5 : decode cX12_isPoke 5 = .ok (.aload_n 0, 1) := by decide +kernel
theorem dX12_isPoke_6 : decode cX12_isPoke 6 = .ok (.iload_n 2, 1) := by decide +kernel
theorem dX12_isPoke_7 : decode cX12_isPoke 7 = .ok (.invokevirtual 147, 3) := by decide +kernel
theorem dX12_isPoke_10 : decode cX12_isPoke 10 = .ok (.aload_n 0, 1) := by decide +kernel
theorem dX12_isPoke_11 : decode cX12_isPoke 11 = .ok (.getfield 20, 3) := by decide +kernel
theorem dX12_isPoke_14 : decode cX12_isPoke 14 = .ok (.iload_n 1, 1) := by decide +kernel
theorem dX12_isPoke_15 : decode cX12_isPoke 15 = .ok (.iload_n 2, 1) := by decide +kernel
theorem dX12_isPoke_16 : decode cX12_isPoke 16 = .ok (.invokevirtual 160, 3) := by decide +kernel
theorem dX12_isPoke_19 : decode cX12_isPoke 19 = .ok (.ireturn, 1) := by decide +kernel
theorem dX12_isAlternating_0 : decode cX12_isAlternating 0 = .ok (.aload_n 0, 1) := by decide +kernel
theorem dX12_isAlternating_1 : decode cX12_isAlternating 1 = .ok (.getfield 20, 3) := by decide +kernel
theorem dX12_isAlternating_4 : decode cX12_isAlternating 4 = .ok (.invokevirtual 164, 3) := by decide +kernel
theorem dX12_isAlternating_7 : decode cX12_isAlternating 7 = .ok (.ireturn, 1) := by decide +kernel
theorem dX12_reducedCrossings_0 : decode cX12_reducedCrossings 0 = .ok (.aload_n 0, 1) := by decide +kernel
theorem dX12_reducedCrossings_1 : decode cX12_reducedCrossings 1 = .ok (.getfield 32, 3) := by decide +kernel
theorem dX12_reducedCrossings_4 : decode cX12_reducedCrossings 4 = .ok (.aload_n 0, 1) := by decide +kernel
theorem dX12_reducedCrossings_5 : decode cX12_reducedCrossings 5 = .ok (.getfield 20, 3) := by decide +kernel
theorem dX12_reducedCrossings_8 : decode cX12_reducedCrossings 8 = .ok (.invokevirtual 168, 3) := by decide +kernel
theorem dX12_reducedCrossings_11 : decode cX12_reducedCrossings 11 = .ok (.aload_n 0, 1) := by decide +kernel
theorem dX12_reducedCrossings_12 : decode cX12_reducedCrossings 12 = .ok (.getfield 32, 3) := by decide +kernel
theorem dX12_reducedCrossings_15 : decode cX12_reducedCrossings 15 = .ok (.invokevirtual 136, 3) := by decide +kernel
theorem dX12_reducedCrossings_18 : decode cX12_reducedCrossings 18 = .ok (.pop, 1) := by decide +kernel
theorem dX12_reducedCrossings_19 : decode cX12_reducedCrossings 19 = .ok (.aload_n 0, 1) := by decide +kernel
theorem dX12_reducedCrossings_20 : decode cX12_reducedCrossings 20 = .ok (.getfield 32, 3) := by decide +kernel
theorem dX12_reducedCrossings_23 : decode cX12_reducedCrossings 23 = .ok (.getfield 96, 3) := by decide +kernel
theorem dX12_reducedCrossings_26 : decode cX12_reducedCrossings 26 = .ok (.ireturn, 1) := by decide +kernel
theorem dX12_crossingByChord_0 : decode cX12_crossingByChord 0 = .ok (.aload_n 0, 1) := by decide +kernel
theorem dX12_crossingByChord_1 : decode cX12_crossingByChord 1 = .ok (.getfield 20, 3) := by decide +kernel
theorem dX12_crossingByChord_4 : decode cX12_crossingByChord 4 = .ok (.iload_n 1, 1) := by decide +kernel
theorem dX12_crossingByChord_5 : decode cX12_crossingByChord 5 = .ok (.invokevirtual 172, 3) := by decide +kernel
theorem dX12_crossingByChord_8 : decode cX12_crossingByChord 8 = .ok (.ifCond .ne 13, 3) := by decide +kernel
theorem dX12_crossingByChord_11 : decode cX12_crossingByChord 11 = .ok (.new 175, 3) := by decide +kernel
theorem dX12_crossingByChord_14 : decode cX12_crossingByChord 14 = .ok (.dup, 1) := by decide +kernel
theorem dX12_crossingByChord_15 : decode cX12_crossingByChord 15 = .ok (.ldc 177, 2) := by decide +kernel
theorem dX12_crossingByChord_17 : decode cX12_crossingByChord 17 = .ok (.invokespecial 179, 3) := by decide +kernel
theorem dX12_crossingByChord_20 : decode cX12_crossingByChord 20 = .ok (.athrow, 1) := by decide +kernel
theorem dX12_crossingByChord_21 : decode cX12_crossingByChord 21 = .ok (.aload_n 0, 1) := by decide +kernel
theorem dX12_crossingByChord_22 : decode cX12_crossingByChord 22 = .ok (.getfield 20, 3) := by decide +kernel
theorem dX12_crossingByChord_25 : decode cX12_crossingByChord 25 = .ok (.iload_n 1, 1) := by decide +kernel
theorem dX12_crossingByChord_26 : decode cX12_crossingByChord 26 = .ok (.invokevirtual 182, 3) := by decide +kernel
theorem dX12_crossingByChord_29 : decode cX12_crossingByChord 29 = .ok (.ireturn, 1) := by decide +kernel
theorem dX12_arcCount_0 : decode cX12_arcCount 0 = .ok (.aload_n 0, 1) := by decide +kernel
theorem dX12_arcCount_1 : decode cX12_arcCount 1 = .ok (.getfield 20, 3) := by decide +kernel
theorem dX12_arcCount_4 : decode cX12_arcCount 4 = .ok (.invokevirtual 185, 3) := by decide +kernel
theorem dX12_arcCount_7 : decode cX12_arcCount 7 = .ok (.ireturn, 1) := by decide +kernel
theorem dX12_arcAt_0 : decode cX12_arcAt 0 = .ok (.aload_n 0, 1) := by decide +kernel
theorem dX12_arcAt_1 : decode cX12_arcAt 1 = .ok (.iload_n 1, 1) := by decide +kernel
theorem dX12_arcAt_2 : decode cX12_arcAt 2 = .ok (.invokevirtual 139, 3) := by decide +kernel
theorem dX12_arcAt_5 : decode cX12_arcAt 5 = .ok (.aload_n 0, 1) := by decide +kernel
theorem dX12_arcAt_6 : decode cX12_arcAt 6 = .ok (.getfield 20, 3) := by decide +kernel
theorem dX12_arcAt_9 : decode cX12_arcAt 9 = .ok (.iload_n 1, 1) := by decide +kernel
theorem dX12_arcAt_10 : decode cX12_arcAt 10 = .ok (.invokevirtual 188, 3) := by decide +kernel
theorem dX12_arcAt_13 : decode cX12_arcAt 13 = .ok (.ireturn, 1) := by decide +kernel
theorem dX12_colourings_0 : decode cX12_colourings 0 = .ok (.iload_n 1, 1) := by decide +kernel
theorem dX12_colourings_1 : decode cX12_colourings 1 = .ok (.iconst 3, 1) := by decide +kernel
theorem dX12_colourings_2 : decode cX12_colourings 2 = .ok (.if_icmp .eq 24, 3) := by decide +kernel
theorem dX12_colourings_5 : decode cX12_colourings 5 = .ok (.iload_n 1, 1) := by decide +kernel
theorem dX12_colourings_6 : decode cX12_colourings 6 = .ok (.iconst 5, 1) := by decide +kernel
theorem dX12_colourings_7 : decode cX12_colourings 7 = .ok (.if_icmp .eq 19, 3) := by decide +kernel
theorem dX12_colourings_10 : decode cX12_colourings 10 = .ok (.iload_n 1, 1) := by decide +kernel
theorem dX12_colourings_11 : decode cX12_colourings 11 = .ok (.bipush 7, 2) := by decide +kernel
theorem dX12_colourings_13 : decode cX12_colourings 13 = .ok (.if_icmp .eq 13, 3) := by decide +kernel
theorem dX12_colourings_16 : decode cX12_colourings 16 = .ok (.new 191, 3) := by decide +kernel
theorem dX12_colourings_19 : decode cX12_colourings 19 = .ok (.dup, 1) := by decide +kernel
theorem dX12_colourings_20 : decode cX12_colourings 20 = .ok (.ldc 193, 2) := by decide +kernel
theorem dX12_colourings_22 : decode cX12_colourings 22 = .ok (.invokespecial 195, 3) := by decide +kernel
theorem dX12_colourings_25 : decode cX12_colourings 25 = .ok (.athrow, 1) := by decide +kernel
theorem dX12_colourings_26 : decode cX12_colourings 26 = .ok (.aload_n 0, 1) := by decide +kernel
theorem dX12_colourings_27 : decode cX12_colourings 27 = .ok (.getfield 45, 3) := by decide +kernel
theorem dX12_colourings_30 : decode cX12_colourings 30 = .ok (.aload_n 0, 1) := by decide +kernel
theorem dX12_colourings_31 : decode cX12_colourings 31 = .ok (.getfield 20, 3) := by decide +kernel
theorem dX12_colourings_34 : decode cX12_colourings 34 = .ok (.iload_n 1, 1) := by decide +kernel
theorem dX12_colourings_35 : decode cX12_colourings 35 = .ok (.invokevirtual 196, 3) := by decide +kernel
theorem dX12_colourings_38 : decode cX12_colourings 38 = .ok (.ireturn, 1) := by decide +kernel
theorem dX12_colouringsByTrying_0 : decode cX12_colouringsByTrying 0 = .ok (.aload_n 0, 1) := by decide +kernel
theorem dX12_colouringsByTrying_1 : decode cX12_colouringsByTrying 1 = .ok (.getfield 45, 3) := by decide +kernel
theorem dX12_colouringsByTrying_4 : decode cX12_colouringsByTrying 4 = .ok (.aload_n 0, 1) := by decide +kernel
theorem dX12_colouringsByTrying_5 : decode cX12_colouringsByTrying 5 = .ok (.getfield 20, 3) := by decide +kernel
theorem dX12_colouringsByTrying_8 : decode cX12_colouringsByTrying 8 = .ok (.invokevirtual 200, 3) := by decide +kernel
theorem dX12_colouringsByTrying_11 : decode cX12_colouringsByTrying 11 = .ok (.ireturn, 1) := by decide +kernel
theorem dX12_loops_0 : decode cX12_loops 0 = .ok (.iload_n 1, 1) := by decide +kernel
theorem dX12_loops_1 : decode cX12_loops 1 = .ok (.ifCond .lt 14, 3) := by decide +kernel
theorem dX12_loops_4 : decode cX12_loops 4 = .ok (.iload_n 1, 1) := by decide +kernel
theorem dX12_loops_5 : decode cX12_loops 5 = .ok (.aload_n 0, 1) := by decide +kernel
theorem dX12_loops_6 : decode cX12_loops 6 = .ok (.getfield 20, 3) := by decide +kernel
theorem dX12_loops_9 : decode cX12_loops 9 = .ok (.invokevirtual 204, 3) := by decide +kernel
theorem dX12_loops_12 : decode cX12_loops 12 = .ok (.if_icmp .lt 13, 3) := by decide +kernel
theorem dX12_loops_15 : decode cX12_loops 15 = .ok (.new 191, 3) := by decide +kernel
theorem dX12_loops_18 : decode cX12_loops 18 = .ok (.dup, 1) := by decide +kernel
theorem dX12_loops_19 : decode cX12_loops 19 = .ok (.ldc 207, 2) := by decide +kernel
theorem dX12_loops_21 : decode cX12_loops 21 = .ok (.invokespecial 195, 3) := by decide +kernel
theorem dX12_loops_24 : decode cX12_loops 24 = .ok (.athrow, 1) := by decide +kernel
theorem dX12_loops_25 : decode cX12_loops 25 = .ok (.aload_n 0, 1) := by decide +kernel
theorem dX12_loops_26 : decode cX12_loops 26 = .ok (.getfield 52, 3) := by decide +kernel
theorem dX12_loops_29 : decode cX12_loops 29 = .ok (.aload_n 0, 1) := by decide +kernel
theorem dX12_loops_30 : decode cX12_loops 30 = .ok (.getfield 20, 3) := by decide +kernel
theorem dX12_loops_33 : decode cX12_loops 33 = .ok (.iload_n 1, 1) := by decide +kernel
theorem dX12_loops_34 : decode cX12_loops 34 = .ok (.invokevirtual 209, 3) := by decide +kernel
theorem dX12_loops_37 : decode cX12_loops 37 = .ok (.ireturn, 1) := by decide +kernel
theorem dX12_bracketCoefficient_0 : decode cX12_bracketCoefficient 0 = .ok (.iload_n 1, 1) := by decide +kernel
theorem dX12_bracketCoefficient_1 : decode cX12_bracketCoefficient 1 = .ok (.invokestatic 212, 3) := by decide +kernel
theorem dX12_bracketCoefficient_4 : decode cX12_bracketCoefficient 4 = .ok (.aload_n 0, 1) := by decide +kernel
theorem dX12_bracketCoefficient_5 : decode cX12_bracketCoefficient 5 = .ok (.getfield 52, 3) := by decide +kernel
theorem dX12_bracketCoefficient_8 : decode cX12_bracketCoefficient 8 = .ok (.aload_n 0, 1) := by decide +kernel
theorem dX12_bracketCoefficient_9 : decode cX12_bracketCoefficient 9 = .ok (.getfield 20, 3) := by decide +kernel
theorem dX12_bracketCoefficient_12 : decode cX12_bracketCoefficient 12 = .ok (.invokevirtual 215, 3) := by decide +kernel
theorem dX12_bracketCoefficient_15 : decode cX12_bracketCoefficient 15 = .ok (.aload_n 0, 1) := by decide +kernel
theorem dX12_bracketCoefficient_16 : decode cX12_bracketCoefficient 16 = .ok (.getfield 52, 3) := by decide +kernel
theorem dX12_bracketCoefficient_19 : decode cX12_bracketCoefficient 19 = .ok (.getfield 218, 3) := by decide +kernel
theorem dX12_bracketCoefficient_22 : decode cX12_bracketCoefficient 22 = .ok (.iload_n 1, 1) := by decide +kernel
theorem dX12_bracketCoefficient_23 : decode cX12_bracketCoefficient 23 = .ok (.invokestatic 221, 3) := by decide +kernel
theorem dX12_bracketCoefficient_26 : decode cX12_bracketCoefficient 26 = .ok (.ireturn, 1) := by decide +kernel
theorem dX12_bracketCoefficientByResolving_0 : decode cX12_bracketCoefficientByResolving 0 = .ok (.iload_n 1, 1) := by decide +kernel
theorem dX12_bracketCoefficientByResolving_1 : decode cX12_bracketCoefficientByResolving 1 = .ok (.invokestatic 212, 3) := by decide +kernel
theorem dX12_bracketCoefficientByResolving_4 : decode cX12_bracketCoefficientByResolving 4 = .ok (.aload_n 0, 1) := by decide +kernel
theorem dX12_bracketCoefficientByResolving_5 : decode cX12_bracketCoefficientByResolving 5 = .ok (.getfield 52, 3) := by decide +kernel
theorem dX12_bracketCoefficientByResolving_8 : decode cX12_bracketCoefficientByResolving 8 = .ok (.aload_n 0, 1) := by decide +kernel
theorem dX12_bracketCoefficientByResolving_9 : decode cX12_bracketCoefficientByResolving 9 = .ok (.getfield 20, 3) := by decide +kernel
theorem dX12_bracketCoefficientByResolving_12 : decode cX12_bracketCoefficientByResolving 12 = .ok (.invokevirtual 225, 3) := by decide +kernel
theorem dX12_bracketCoefficientByResolving_15 : decode cX12_bracketCoefficientByResolving 15 = .ok (.aload_n 0, 1) := by decide +kernel
theorem dX12_bracketCoefficientByResolving_16 : decode cX12_bracketCoefficientByResolving 16 = .ok (.getfield 52, 3) := by decide +kernel
theorem dX12_bracketCoefficientByResolving_19 : decode cX12_bracketCoefficientByResolving 19 = .ok (.getfield 228, 3) := by decide +kernel
theorem dX12_bracketCoefficientByResolving_22 : decode cX12_bracketCoefficientByResolving 22 = .ok (.iload_n 1, 1) := by decide +kernel
theorem dX12_bracketCoefficientByResolving_23 : decode cX12_bracketCoefficientByResolving 23 = .ok (.invokestatic 221, 3) := by decide +kernel
theorem dX12_bracketCoefficientByResolving_26 : decode cX12_bracketCoefficientByResolving 26 = .ok (.ireturn, 1) := by decide +kernel
theorem dX12_coefficient_0 : decode cX12_coefficient 0 = .ok (.iload_n 1, 1) := by decide +kernel
theorem dX12_coefficient_1 : decode cX12_coefficient 1 = .ok (.invokestatic 212, 3) := by decide +kernel
theorem dX12_coefficient_4 : decode cX12_coefficient 4 = .ok (.aload_n 0, 1) := by decide +kernel
theorem dX12_coefficient_5 : decode cX12_coefficient 5 = .ok (.getfield 52, 3) := by decide +kernel
theorem dX12_coefficient_8 : decode cX12_coefficient 8 = .ok (.aload_n 0, 1) := by decide +kernel
theorem dX12_coefficient_9 : decode cX12_coefficient 9 = .ok (.getfield 20, 3) := by decide +kernel
theorem dX12_coefficient_12 : decode cX12_coefficient 12 = .ok (.invokevirtual 231, 3) := by decide +kernel
theorem dX12_coefficient_15 : decode cX12_coefficient 15 = .ok (.aload_n 0, 1) := by decide +kernel
theorem dX12_coefficient_16 : decode cX12_coefficient 16 = .ok (.getfield 52, 3) := by decide +kernel
theorem dX12_coefficient_19 : decode cX12_coefficient 19 = .ok (.getfield 234, 3) := by decide +kernel
theorem dX12_coefficient_22 : decode cX12_coefficient 22 = .ok (.iload_n 1, 1) := by decide +kernel
theorem dX12_coefficient_23 : decode cX12_coefficient 23 = .ok (.invokestatic 221, 3) := by decide +kernel
theorem dX12_coefficient_26 : decode cX12_coefficient 26 = .ok (.ireturn, 1) := by decide +kernel
theorem dX12_lowestExponent_0 : decode cX12_lowestExponent 0 = .ok (.aload_n 0, 1) := by decide +kernel
theorem dX12_lowestExponent_1 : decode cX12_lowestExponent 1 = .ok (.getfield 52, 3) := by decide +kernel
theorem dX12_lowestExponent_4 : decode cX12_lowestExponent 4 = .ok (.aload_n 0, 1) := by decide +kernel
theorem dX12_lowestExponent_5 : decode cX12_lowestExponent 5 = .ok (.getfield 20, 3) := by decide +kernel
theorem dX12_lowestExponent_8 : decode cX12_lowestExponent 8 = .ok (.invokevirtual 231, 3) := by decide +kernel
theorem dX12_lowestExponent_11 : decode cX12_lowestExponent 11 = .ok (.bipush (-50), 2) := by decide +kernel
theorem dX12_lowestExponent_13 : decode cX12_lowestExponent 13 = .ok (.istore_n 1, 1) := by decide +kernel
theorem dX12_lowestExponent_14 : decode cX12_lowestExponent 14 = .ok (.iload_n 1, 1) := by decide +kernel
theorem dX12_lowestExponent_15 : decode cX12_lowestExponent 15 = .ok (.bipush 50, 2) := by decide +kernel
theorem dX12_lowestExponent_17 : decode cX12_lowestExponent 17 = .ok (.if_icmp .ge 25, 3) := by decide +kernel
theorem dX12_lowestExponent_20 : decode cX12_lowestExponent 20 = .ok (.aload_n 0, 1) := by decide +kernel
theorem dX12_lowestExponent_21 : decode cX12_lowestExponent 21 = .ok (.getfield 52, 3) := by decide +kernel
theorem dX12_lowestExponent_24 : decode cX12_lowestExponent 24 = .ok (.getfield 234, 3) := by decide +kernel
theorem dX12_lowestExponent_27 : decode cX12_lowestExponent 27 = .ok (.iload_n 1, 1) := by decide +kernel
theorem dX12_lowestExponent_28 : decode cX12_lowestExponent 28 = .ok (.invokestatic 221, 3) := by decide +kernel
theorem dX12_lowestExponent_31 : decode cX12_lowestExponent 31 = .ok (.ifCond .eq 5, 3) := by decide +kernel
theorem dX12_lowestExponent_34 : decode cX12_lowestExponent 34 = .ok (.iload_n 1, 1) := by decide +kernel
theorem dX12_lowestExponent_35 : decode cX12_lowestExponent 35 = .ok (.ireturn, 1) := by decide +kernel
theorem dX12_lowestExponent_36 : decode cX12_lowestExponent 36 = .ok (.iinc 1 1, 3) := by decide +kernel
theorem dX12_lowestExponent_39 : decode cX12_lowestExponent 39 = .ok (.goto (-25), 3) := by decide +kernel
theorem dX12_lowestExponent_42 : decode cX12_lowestExponent 42 = .ok (.bipush 50, 2) := by decide +kernel
theorem dX12_lowestExponent_44 : decode cX12_lowestExponent 44 = .ok (.ireturn, 1) := by decide +kernel
theorem dX12_highestExponent_0 : decode cX12_highestExponent 0 = .ok (.aload_n 0, 1) := by decide +kernel
theorem dX12_highestExponent_1 : decode cX12_highestExponent 1 = .ok (.getfield 52, 3) := by decide +kernel
theorem dX12_highestExponent_4 : decode cX12_highestExponent 4 = .ok (.aload_n 0, 1) := by decide +kernel
theorem dX12_highestExponent_5 : decode cX12_highestExponent 5 = .ok (.getfield 20, 3) := by decide +kernel
theorem dX12_highestExponent_8 : decode cX12_highestExponent 8 = .ok (.invokevirtual 231, 3) := by decide +kernel
theorem dX12_highestExponent_11 : decode cX12_highestExponent 11 = .ok (.bipush 50, 2) := by decide +kernel
theorem dX12_highestExponent_13 : decode cX12_highestExponent 13 = .ok (.istore_n 1, 1) := by decide +kernel
theorem dX12_highestExponent_14 : decode cX12_highestExponent 14 = .ok (.iload_n 1, 1) := by decide +kernel
theorem dX12_highestExponent_15 : decode cX12_highestExponent 15 = .ok (.bipush (-50), 2) := by decide +kernel
theorem dX12_highestExponent_17 : decode cX12_highestExponent 17 = .ok (.if_icmp .le 25, 3) := by decide +kernel
theorem dX12_highestExponent_20 : decode cX12_highestExponent 20 = .ok (.aload_n 0, 1) := by decide +kernel
theorem dX12_highestExponent_21 : decode cX12_highestExponent 21 = .ok (.getfield 52, 3) := by decide +kernel
theorem dX12_highestExponent_24 : decode cX12_highestExponent 24 = .ok (.getfield 234, 3) := by decide +kernel
theorem dX12_highestExponent_27 : decode cX12_highestExponent 27 = .ok (.iload_n 1, 1) := by decide +kernel
theorem dX12_highestExponent_28 : decode cX12_highestExponent 28 = .ok (.invokestatic 221, 3) := by decide +kernel
theorem dX12_highestExponent_31 : decode cX12_highestExponent 31 = .ok (.ifCond .eq 5, 3) := by decide +kernel
theorem dX12_highestExponent_34 : decode cX12_highestExponent 34 = .ok (.iload_n 1, 1) := by decide +kernel
theorem dX12_highestExponent_35 : decode cX12_highestExponent 35 = .ok (.ireturn, 1) := by decide +kernel
theorem dX12_highestExponent_36 : decode cX12_highestExponent 36 = .ok (.iinc 1 (-1), 3) := by decide +kernel
theorem dX12_highestExponent_39 : decode cX12_highestExponent 39 = .ok (.goto (-25), 3) := by decide +kernel
theorem dX12_highestExponent_42 : decode cX12_highestExponent 42 = .ok (.bipush (-50), 2) := by decide +kernel
theorem dX12_highestExponent_44 : decode cX12_highestExponent 44 = .ok (.ireturn, 1) := by decide +kernel
theorem dX12_isPolynomialTrivial_0 : decode cX12_isPolynomialTrivial 0 = .ok (.aload_n 0, 1) := by decide +kernel
theorem dX12_isPolynomialTrivial_1 : decode cX12_isPolynomialTrivial 1 = .ok (.getfield 52, 3) := by decide +kernel
theorem dX12_isPolynomialTrivial_4 : decode cX12_isPolynomialTrivial 4 = .ok (.aload_n 0, 1) := by decide +kernel
theorem dX12_isPolynomialTrivial_5 : decode cX12_isPolynomialTrivial 5 = .ok (.getfield 20, 3) := by decide +kernel
theorem dX12_isPolynomialTrivial_8 : decode cX12_isPolynomialTrivial 8 = .ok (.invokevirtual 231, 3) := by decide +kernel
theorem dX12_isPolynomialTrivial_11 : decode cX12_isPolynomialTrivial 11 = .ok (.bipush (-50), 2) := by decide +kernel
theorem dX12_isPolynomialTrivial_13 : decode cX12_isPolynomialTrivial 13 = .ok (.istore_n 1, 1) := by decide +kernel
theorem dX12_isPolynomialTrivial_14 : decode cX12_isPolynomialTrivial 14 = .ok (.iload_n 1, 1) := by decide +kernel
theorem dX12_isPolynomialTrivial_15 : decode cX12_isPolynomialTrivial 15 = .ok (.bipush 50, 2) := by decide +kernel
theorem dX12_isPolynomialTrivial_17 : decode cX12_isPolynomialTrivial 17 = .ok (.if_icmp .gt 34, 3) := by decide +kernel
theorem dX12_isPolynomialTrivial_20 : decode cX12_isPolynomialTrivial 20 = .ok (.aload_n 0, 1) := by decide +kernel
theorem dX12_isPolynomialTrivial_21 : decode cX12_isPolynomialTrivial 21 = .ok (.getfield 52, 3) := by decide +kernel
theorem dX12_isPolynomialTrivial_24 : decode cX12_isPolynomialTrivial 24 = .ok (.getfield 234, 3) := by decide +kernel
theorem dX12_isPolynomialTrivial_27 : decode cX12_isPolynomialTrivial 27 = .ok (.iload_n 1, 1) := by decide +kernel
theorem dX12_isPolynomialTrivial_28 : decode cX12_isPolynomialTrivial 28 = .ok (.invokestatic 221, 3) := by decide +kernel
theorem dX12_isPolynomialTrivial_31 : decode cX12_isPolynomialTrivial 31 = .ok (.iload_n 1, 1) := by decide +kernel
theorem dX12_isPolynomialTrivial_32 : decode cX12_isPolynomialTrivial 32 = .ok (.ifCond .ne 7, 3) := by decide +kernel
theorem dX12_isPolynomialTrivial_35 : decode cX12_isPolynomialTrivial 35 = .ok (.iconst 1, 1) := by decide +kernel
theorem dX12_isPolynomialTrivial_36 : decode cX12_isPolynomialTrivial 36 = .ok (.goto 4, 3) := by decide +kernel
theorem dX12_isPolynomialTrivial_39 : decode cX12_isPolynomialTrivial 39 = .ok (.iconst 0, 1) := by decide +kernel
theorem dX12_isPolynomialTrivial_40 : decode cX12_isPolynomialTrivial 40 = .ok (.if_icmp .eq 5, 3) := by decide +kernel
theorem dX12_isPolynomialTrivial_43 : decode cX12_isPolynomialTrivial 43 = .ok (.iconst 0, 1) := by decide +kernel
theorem dX12_isPolynomialTrivial_44 : decode cX12_isPolynomialTrivial 44 = .ok (.ireturn, 1) := by decide +kernel
theorem dX12_isPolynomialTrivial_45 : decode cX12_isPolynomialTrivial 45 = .ok (.iinc 1 1, 3) := by decide +kernel
theorem dX12_isPolynomialTrivial_48 : decode cX12_isPolynomialTrivial 48 = .ok (.goto (-34), 3) := by decide +kernel
theorem dX12_isPolynomialTrivial_51 : decode cX12_isPolynomialTrivial 51 = .ok (.iconst 1, 1) := by decide +kernel
theorem dX12_isPolynomialTrivial_52 : decode cX12_isPolynomialTrivial 52 = .ok (.ireturn, 1) := by decide +kernel
theorem dX12_value_0 : decode cX12_value 0 = .ok (.aload_n 0, 1) := by decide +kernel
theorem dX12_value_1 : decode cX12_value 1 = .ok (.getfield 52, 3) := by decide +kernel
theorem dX12_value_4 : decode cX12_value 4 = .ok (.aload_n 0, 1) := by decide +kernel
theorem dX12_value_5 : decode cX12_value 5 = .ok (.getfield 20, 3) := by decide +kernel
theorem dX12_value_8 : decode cX12_value 8 = .ok (.invokevirtual 231, 3) := by decide +kernel
theorem dX12_value_11 : decode cX12_value 11 = .ok (.iload_n 1, 1) := by decide +kernel
theorem dX12_value_12 : decode cX12_value 12 = .ok (.ifCond .eq 9, 3) := by decide +kernel
theorem dX12_value_15 : decode cX12_value 15 = .ok (.ldc2_w 237, 3) := by decide +kernel
theorem dX12_value_18 : decode cX12_value 18 = .ok (.goto 6, 3) := by decide +kernel
theorem dX12_value_21 : decode cX12_value 21 = .ok (.ldc2_w 239, 3) := by decide +kernel
theorem dX12_value_24 : decode cX12_value 24 = .ok (.dstore_n 2, 1) := by decide +kernel
theorem dX12_value_25 : decode cX12_value 25 = .ok (.dconst 1, 1) := by decide +kernel
theorem dX12_value_26 : decode cX12_value 26 = .ok (.dstore 4, 2) := by decide +kernel
theorem dX12_value_28 : decode cX12_value 28 = .ok (.iconst 0, 1) := by decide +kernel
theorem dX12_value_29 : decode cX12_value 29 = .ok (.istore 6, 2) := by decide +kernel
theorem dX12_value_31 : decode cX12_value 31 = .ok (.iload 6, 2) := by decide +kernel
theorem dX12_value_33 : decode cX12_value 33 = .ok (.bipush 50, 2) := by decide +kernel
theorem dX12_value_35 : decode cX12_value 35 = .ok (.if_icmp .ge 15, 3) := by decide +kernel
theorem dX12_value_38 : decode cX12_value 38 = .ok (.dload 4, 2) := by decide +kernel
theorem dX12_value_40 : decode cX12_value 40 = .ok (.dload_n 2, 1) := by decide +kernel
theorem dX12_value_41 : decode cX12_value 41 = .ok (.ddiv, 1) := by decide +kernel
theorem dX12_value_42 : decode cX12_value 42 = .ok (.dstore 4, 2) := by decide +kernel
theorem dX12_value_44 : decode cX12_value 44 = .ok (.iinc 6 1, 3) := by decide +kernel
theorem dX12_value_47 : decode cX12_value 47 = .ok (.goto (-16), 3) := by decide +kernel
theorem dX12_value_50 : decode cX12_value 50 = .ok (.dconst 0, 1) := by decide +kernel
theorem dX12_value_51 : decode cX12_value 51 = .ok (.dstore 6, 2) := by decide +kernel
theorem dX12_value_53 : decode cX12_value 53 = .ok (.bipush (-50), 2) := by decide +kernel
theorem dX12_value_55 : decode cX12_value 55 = .ok (.istore 8, 2) := by decide +kernel
theorem dX12_value_57 : decode cX12_value 57 = .ok (.iload 8, 2) := by decide +kernel
theorem dX12_value_59 : decode cX12_value 59 = .ok (.bipush 50, 2) := by decide +kernel
theorem dX12_value_61 : decode cX12_value 61 = .ok (.if_icmp .gt 36, 3) := by decide +kernel
theorem dX12_value_64 : decode cX12_value 64 = .ok (.dload 6, 2) := by decide +kernel
theorem dX12_value_66 : decode cX12_value 66 = .ok (.aload_n 0, 1) := by decide +kernel
theorem dX12_value_67 : decode cX12_value 67 = .ok (.getfield 52, 3) := by decide +kernel
theorem dX12_value_70 : decode cX12_value 70 = .ok (.getfield 234, 3) := by decide +kernel
theorem dX12_value_73 : decode cX12_value 73 = .ok (.iload 8, 2) := by decide +kernel
theorem dX12_value_75 : decode cX12_value 75 = .ok (.invokestatic 221, 3) := by decide +kernel
theorem dX12_value_78 : decode cX12_value 78 = .ok (.i2d, 1) := by decide +kernel
theorem dX12_value_79 : decode cX12_value 79 = .ok (.dload 4, 2) := by decide +kernel
theorem dX12_value_81 : decode cX12_value 81 = .ok (.dmul, 1) := by decide +kernel
theorem dX12_value_82 : decode cX12_value 82 = .ok (.dadd, 1) := by decide +kernel
theorem dX12_value_83 : decode cX12_value 83 = .ok (.dstore 6, 2) := by decide +kernel
theorem dX12_value_85 : decode cX12_value 85 = .ok (.dload 4, 2) := by decide +kernel
theorem dX12_value_87 : decode cX12_value 87 = .ok (.dload_n 2, 1) := by decide +kernel
theorem dX12_value_88 : decode cX12_value 88 = .ok (.dmul, 1) := by decide +kernel
theorem dX12_value_89 : decode cX12_value 89 = .ok (.dstore 4, 2) := by decide +kernel
theorem dX12_value_91 : decode cX12_value 91 = .ok (.iinc 8 1, 3) := by decide +kernel
theorem dX12_value_94 : decode cX12_value 94 = .ok (.goto (-37), 3) := by decide +kernel
theorem dX12_value_97 : decode cX12_value 97 = .ok (.dload 6, 2) := by decide +kernel
theorem dX12_value_99 : decode cX12_value 99 = .ok (.dreturn, 1) := by decide +kernel
theorem dX12_isPlainlyUnknotted_0 : decode cX12_isPlainlyUnknotted 0 = .ok (.aload_n 0, 1) := by decide +kernel
theorem dX12_isPlainlyUnknotted_1 : decode cX12_isPlainlyUnknotted 1 = .ok (.invokevirtual 241, 3) := by decide +kernel
theorem dX12_isPlainlyUnknotted_4 : decode cX12_isPlainlyUnknotted 4 = .ok (.ifCond .ne 7, 3) := by decide +kernel
theorem dX12_isPlainlyUnknotted_7 : decode cX12_isPlainlyUnknotted 7 = .ok (.iconst 1, 1) := by decide +kernel
theorem dX12_isPlainlyUnknotted_8 : decode cX12_isPlainlyUnknotted 8 = .ok (.goto 4, 3) := by decide +kernel
theorem dX12_isPlainlyUnknotted_11 : decode cX12_isPlainlyUnknotted 11 = .ok (.iconst 0, 1) := by decide +kernel
theorem dX12_isPlainlyUnknotted_12 : decode cX12_isPlainlyUnknotted 12 = .ok (.ireturn, 1) := by decide +kernel
theorem dX12_switches_0 : decode cX12_switches 0 = .ok (.aload_n 0, 1) := by decide +kernel
theorem dX12_switches_1 : decode cX12_switches 1 = .ok (.getfield 59, 3) := by decide +kernel
theorem dX12_switches_4 : decode cX12_switches 4 = .ok (.aload_n 0, 1) := by decide +kernel
theorem dX12_switches_5 : decode cX12_switches 5 = .ok (.getfield 20, 3) := by decide +kernel
theorem dX12_switches_8 : decode cX12_switches 8 = .ok (.invokevirtual 244, 3) := by decide +kernel
theorem dX12_switches_11 : decode cX12_switches 11 = .ok (.invokestatic 247, 3) := by decide +kernel
theorem dX12_switches_14 : decode cX12_switches 14 = .ok (.ireturn, 1) := by decide +kernel
theorem dX12_switchesByDepth_0 : decode cX12_switchesByDepth 0 = .ok (.aload_n 0, 1) := by decide +kernel
theorem dX12_switchesByDepth_1 : decode cX12_switchesByDepth 1 = .ok (.getfield 59, 3) := by decide +kernel
theorem dX12_switchesByDepth_4 : decode cX12_switchesByDepth 4 = .ok (.aload_n 0, 1) := by decide +kernel
theorem dX12_switchesByDepth_5 : decode cX12_switchesByDepth 5 = .ok (.getfield 20, 3) := by decide +kernel
theorem dX12_switchesByDepth_8 : decode cX12_switchesByDepth 8 = .ok (.invokevirtual 250, 3) := by decide +kernel
theorem dX12_switchesByDepth_11 : decode cX12_switchesByDepth 11 = .ok (.invokestatic 247, 3) := by decide +kernel
theorem dX12_switchesByDepth_14 : decode cX12_switchesByDepth 14 = .ok (.ireturn, 1) := by decide +kernel
theorem dX12_firstSwitch_0 : decode cX12_firstSwitch 0 = .ok (.aload_n 0, 1) := by decide +kernel
theorem dX12_firstSwitch_1 : decode cX12_firstSwitch 1 = .ok (.getfield 59, 3) := by decide +kernel
theorem dX12_firstSwitch_4 : decode cX12_firstSwitch 4 = .ok (.aload_n 0, 1) := by decide +kernel
theorem dX12_firstSwitch_5 : decode cX12_firstSwitch 5 = .ok (.getfield 20, 3) := by decide +kernel
theorem dX12_firstSwitch_8 : decode cX12_firstSwitch 8 = .ok (.invokevirtual 244, 3) := by decide +kernel
theorem dX12_firstSwitch_11 : decode cX12_firstSwitch 11 = .ok (.invokestatic 247, 3) := by decide +kernel
theorem dX12_firstSwitch_14 : decode cX12_firstSwitch 14 = .ok (.pop, 1) := by decide +kernel
theorem dX12_firstSwitch_15 : decode cX12_firstSwitch 15 = .ok (.iconst 0, 1) := by decide +kernel
theorem dX12_firstSwitch_16 : decode cX12_firstSwitch 16 = .ok (.istore_n 1, 1) := by decide +kernel
theorem dX12_firstSwitch_17 : decode cX12_firstSwitch 17 = .ok (.iload_n 1, 1) := by decide +kernel
theorem dX12_firstSwitch_18 : decode cX12_firstSwitch 18 = .ok (.bipush 7, 2) := by decide +kernel
theorem dX12_firstSwitch_20 : decode cX12_firstSwitch 20 = .ok (.if_icmp .ge 25, 3) := by decide +kernel
theorem dX12_firstSwitch_23 : decode cX12_firstSwitch 23 = .ok (.iload_n 1, 1) := by decide +kernel
theorem dX12_firstSwitch_24 : decode cX12_firstSwitch 24 = .ok (.aload_n 0, 1) := by decide +kernel
theorem dX12_firstSwitch_25 : decode cX12_firstSwitch 25 = .ok (.getfield 59, 3) := by decide +kernel
theorem dX12_firstSwitch_28 : decode cX12_firstSwitch 28 = .ok (.getfield 253, 3) := by decide +kernel
theorem dX12_firstSwitch_31 : decode cX12_firstSwitch 31 = .ok (.invokestatic 256, 3) := by decide +kernel
theorem dX12_firstSwitch_34 : decode cX12_firstSwitch 34 = .ok (.ifCond .eq 5, 3) := by decide +kernel
theorem dX12_firstSwitch_37 : decode cX12_firstSwitch 37 = .ok (.iload_n 1, 1) := by decide +kernel
theorem dX12_firstSwitch_38 : decode cX12_firstSwitch 38 = .ok (.ireturn, 1) := by decide +kernel
theorem dX12_firstSwitch_39 : decode cX12_firstSwitch 39 = .ok (.iinc 1 1, 3) := by decide +kernel
theorem dX12_firstSwitch_42 : decode cX12_firstSwitch 42 = .ok (.goto (-25), 3) := by decide +kernel
theorem dX12_firstSwitch_45 : decode cX12_firstSwitch 45 = .ok (.iconst (-1), 1) := by decide +kernel
theorem dX12_firstSwitch_46 : decode cX12_firstSwitch 46 = .ok (.ireturn, 1) := by decide +kernel
theorem dX12_addPlayer_0 : decode cX12_addPlayer 0 = .ok (.aload_n 0, 1) := by decide +kernel
theorem dX12_addPlayer_1 : decode cX12_addPlayer 1 = .ok (.getfield 38, 3) := by decide +kernel
theorem dX12_addPlayer_4 : decode cX12_addPlayer 4 = .ok (.aload_n 0, 1) := by decide +kernel
theorem dX12_addPlayer_5 : decode cX12_addPlayer 5 = .ok (.getfield 10, 3) := by decide +kernel
theorem dX12_addPlayer_8 : decode cX12_addPlayer 8 = .ok (.invokevirtual 84, 3) := by decide +kernel
theorem dX12_addPlayer_11 : decode cX12_addPlayer 11 = .ok (.aload_n 0, 1) := by decide +kernel
theorem dX12_addPlayer_12 : decode cX12_addPlayer 12 = .ok (.aload_n 0, 1) := by decide +kernel
theorem dX12_addPlayer_13 : decode cX12_addPlayer 13 = .ok (.getfield 25, 3) := by decide +kernel
theorem dX12_addPlayer_16 : decode cX12_addPlayer 16 = .ok (.invokevirtual 259, 3) := by decide +kernel
theorem dX12_addPlayer_19 : decode cX12_addPlayer 19 = .ok (.invokevirtual 92, 3) := by decide +kernel
theorem dX12_addPlayer_22 : decode cX12_addPlayer 22 = .ok (.aload_n 0, 1) := by decide +kernel
theorem dX12_addPlayer_23 : decode cX12_addPlayer 23 = .ok (.getfield 25, 3) := by decide +kernel
theorem dX12_addPlayer_26 : decode cX12_addPlayer 26 = .ok (.getfield 264, 3) := by decide +kernel
theorem dX12_addPlayer_29 : decode cX12_addPlayer 29 = .ok (.iconst 1, 1) := by decide +kernel
theorem dX12_addPlayer_30 : decode cX12_addPlayer 30 = .ok (.isub, 1) := by decide +kernel
theorem dX12_addPlayer_31 : decode cX12_addPlayer 31 = .ok (.ireturn, 1) := by decide +kernel
theorem dX12_bet_0 : decode cX12_bet 0 = .ok (.aload_n 0, 1) := by decide +kernel
theorem dX12_bet_1 : decode cX12_bet 1 = .ok (.getfield 38, 3) := by decide +kernel
theorem dX12_bet_4 : decode cX12_bet 4 = .ok (.aload_n 0, 1) := by decide +kernel
theorem dX12_bet_5 : decode cX12_bet 5 = .ok (.getfield 10, 3) := by decide +kernel
theorem dX12_bet_8 : decode cX12_bet 8 = .ok (.invokevirtual 84, 3) := by decide +kernel
theorem dX12_bet_11 : decode cX12_bet 11 = .ok (.aload_n 0, 1) := by decide +kernel
theorem dX12_bet_12 : decode cX12_bet 12 = .ok (.aload_n 0, 1) := by decide +kernel
theorem dX12_bet_13 : decode cX12_bet 13 = .ok (.getfield 25, 3) := by decide +kernel
theorem dX12_bet_16 : decode cX12_bet 16 = .ok (.iload_n 1, 1) := by decide +kernel
theorem dX12_bet_17 : decode cX12_bet 17 = .ok (.iload_n 2, 1) := by decide +kernel
theorem dX12_bet_18 : decode cX12_bet 18 = .ok (.iload_n 3, 1) := by decide +kernel
theorem dX12_bet_19 : decode cX12_bet 19 = .ok (.invokevirtual 265, 3) := by decide +kernel
theorem dX12_bet_22 : decode cX12_bet 22 = .ok (.invokevirtual 92, 3) := by decide +kernel
theorem dX12_bet_25 : decode cX12_bet 25 = .ok (.aload_n 0, 1) := by decide +kernel
theorem dX12_bet_26 : decode cX12_bet 26 = .ok (.getfield 25, 3) := by decide +kernel
theorem dX12_bet_29 : decode cX12_bet 29 = .ok (.getfield 269, 3) := by decide +kernel
theorem dX12_bet_32 : decode cX12_bet 32 = .ok (.iload_n 1, 1) := by decide +kernel
theorem dX12_bet_33 : decode cX12_bet 33 = .ok (.iaload, 1) := by decide +kernel
theorem dX12_bet_34 : decode cX12_bet 34 = .ok (.ireturn, 1) := by decide +kernel
theorem dX12_settle_0 : decode cX12_settle 0 = .ok (.aload_n 0, 1) := by decide +kernel
theorem dX12_settle_1 : decode cX12_settle 1 = .ok (.getfield 59, 3) := by decide +kernel
theorem dX12_settle_4 : decode cX12_settle 4 = .ok (.aload_n 0, 1) := by decide +kernel
theorem dX12_settle_5 : decode cX12_settle 5 = .ok (.getfield 20, 3) := by decide +kernel
theorem dX12_settle_8 : decode cX12_settle 8 = .ok (.invokevirtual 244, 3) := by decide +kernel
theorem dX12_settle_11 : decode cX12_settle 11 = .ok (.istore_n 1, 1) := by decide +kernel
theorem dX12_settle_12 : decode cX12_settle 12 = .ok (.aload_n 0, 1) := by decide +kernel
theorem dX12_settle_13 : decode cX12_settle 13 = .ok (.getfield 25, 3) := by decide +kernel
theorem dX12_settle_16 : decode cX12_settle 16 = .ok (.iload_n 1, 1) := by decide +kernel
theorem dX12_settle_17 : decode cX12_settle 17 = .ok (.invokevirtual 272, 3) := by decide +kernel
theorem dX12_settle_20 : decode cX12_settle 20 = .ok (.istore_n 2, 1) := by decide +kernel
theorem dX12_settle_21 : decode cX12_settle 21 = .ok (.aload_n 0, 1) := by decide +kernel
theorem dX12_settle_22 : decode cX12_settle 22 = .ok (.getfield 38, 3) := by decide +kernel
theorem dX12_settle_25 : decode cX12_settle 25 = .ok (.aload_n 0, 1) := by decide +kernel
theorem dX12_settle_26 : decode cX12_settle 26 = .ok (.getfield 10, 3) := by decide +kernel
theorem dX12_settle_29 : decode cX12_settle 29 = .ok (.invokevirtual 84, 3) := by decide +kernel
theorem dX12_settle_32 : decode cX12_settle 32 = .ok (.aload_n 0, 1) := by decide +kernel
theorem dX12_settle_33 : decode cX12_settle 33 = .ok (.aload_n 0, 1) := by decide +kernel
theorem dX12_settle_34 : decode cX12_settle 34 = .ok (.getfield 25, 3) := by decide +kernel
theorem dX12_settle_37 : decode cX12_settle 37 = .ok (.iload_n 1, 1) := by decide +kernel
theorem dX12_settle_38 : decode cX12_settle 38 = .ok (.invokevirtual 275, 3) := by decide +kernel
theorem dX12_settle_41 : decode cX12_settle 41 = .ok (.invokevirtual 92, 3) := by decide +kernel
theorem dX12_settle_44 : decode cX12_settle 44 = .ok (.iload_n 2, 1) := by decide +kernel
theorem dX12_settle_45 : decode cX12_settle 45 = .ok (.ireturn, 1) := by decide +kernel
theorem dX12_playerCount_0 : decode cX12_playerCount 0 = .ok (.aload_n 0, 1) := by decide +kernel
theorem dX12_playerCount_1 : decode cX12_playerCount 1 = .ok (.getfield 25, 3) := by decide +kernel
theorem dX12_playerCount_4 : decode cX12_playerCount 4 = .ok (.getfield 264, 3) := by decide +kernel
theorem dX12_playerCount_7 : decode cX12_playerCount 7 = .ok (.ireturn, 1) := by decide +kernel
theorem dX12_coins_0 : decode cX12_coins 0 = .ok (.aload_n 0, 1) := by decide +kernel
theorem dX12_coins_1 : decode cX12_coins 1 = .ok (.iload_n 1, 1) := by decide +kernel
theorem dX12_coins_2 : decode cX12_coins 2 = .ok (.invokevirtual 278, 3) := by decide +kernel
theorem dX12_coins_5 : decode cX12_coins 5 = .ok (.aload_n 0, 1) := by decide +kernel
theorem dX12_coins_6 : decode cX12_coins 6 = .ok (.getfield 25, 3) := by decide +kernel
theorem dX12_coins_9 : decode cX12_coins 9 = .ok (.getfield 269, 3) := by decide +kernel
theorem dX12_coins_12 : decode cX12_coins 12 = .ok (.iload_n 1, 1) := by decide +kernel
theorem dX12_coins_13 : decode cX12_coins 13 = .ok (.iaload, 1) := by decide +kernel
theorem dX12_coins_14 : decode cX12_coins 14 = .ok (.ireturn, 1) := by decide +kernel
theorem dX12_guess_0 : decode cX12_guess 0 = .ok (.aload_n 0, 1) := by decide +kernel
theorem dX12_guess_1 : decode cX12_guess 1 = .ok (.iload_n 1, 1) := by decide +kernel
theorem dX12_guess_2 : decode cX12_guess 2 = .ok (.invokevirtual 278, 3) := by decide +kernel
theorem dX12_guess_5 : decode cX12_guess 5 = .ok (.aload_n 0, 1) := by decide +kernel
theorem dX12_guess_6 : decode cX12_guess 6 = .ok (.getfield 25, 3) := by decide +kernel
theorem dX12_guess_9 : decode cX12_guess 9 = .ok (.getfield 281, 3) := by decide +kernel
theorem dX12_guess_12 : decode cX12_guess 12 = .ok (.iload_n 1, 1) := by decide +kernel
theorem dX12_guess_13 : decode cX12_guess 13 = .ok (.iaload, 1) := by decide +kernel
theorem dX12_guess_14 : decode cX12_guess 14 = .ok (.ifCond .ne 14, 3) := by decide +kernel
theorem dX12_guess_17 : decode cX12_guess 17 = .ok (.new 175, 3) := by decide +kernel
theorem dX12_guess_20 : decode cX12_guess 20 = .ok (.dup, 1) := by decide +kernel
theorem dX12_guess_21 : decode cX12_guess 21 = .ok (.ldc_w 284, 3) := by decide +kernel
theorem dX12_guess_24 : decode cX12_guess 24 = .ok (.invokespecial 179, 3) := by decide +kernel
theorem dX12_guess_27 : decode cX12_guess 27 = .ok (.athrow, 1) := by decide +kernel
theorem dX12_guess_28 : decode cX12_guess 28 = .ok (.aload_n 0, 1) := by decide +kernel
theorem dX12_guess_29 : decode cX12_guess 29 = .ok (.getfield 25, 3) := by decide +kernel
theorem dX12_guess_32 : decode cX12_guess 32 = .ok (.getfield 286, 3) := by decide +kernel
theorem dX12_guess_35 : decode cX12_guess 35 = .ok (.iload_n 1, 1) := by decide +kernel
theorem dX12_guess_36 : decode cX12_guess 36 = .ok (.iaload, 1) := by decide +kernel
theorem dX12_guess_37 : decode cX12_guess 37 = .ok (.ireturn, 1) := by decide +kernel
theorem dX12_pot_0 : decode cX12_pot 0 = .ok (.aload_n 0, 1) := by decide +kernel
theorem dX12_pot_1 : decode cX12_pot 1 = .ok (.getfield 25, 3) := by decide +kernel
theorem dX12_pot_4 : decode cX12_pot 4 = .ok (.invokevirtual 289, 3) := by decide +kernel
theorem dX12_pot_7 : decode cX12_pot 7 = .ok (.ireturn, 1) := by decide +kernel
theorem dX12_house_0 : decode cX12_house 0 = .ok (.aload_n 0, 1) := by decide +kernel
theorem dX12_house_1 : decode cX12_house 1 = .ok (.getfield 25, 3) := by decide +kernel
theorem dX12_house_4 : decode cX12_house 4 = .ok (.getfield 292, 3) := by decide +kernel
theorem dX12_house_7 : decode cX12_house 7 = .ok (.ireturn, 1) := by decide +kernel
theorem dX12_playerByCoins_0 : decode cX12_playerByCoins 0 = .ok (.aload_n 0, 1) := by decide +kernel
theorem dX12_playerByCoins_1 : decode cX12_playerByCoins 1 = .ok (.getfield 25, 3) := by decide +kernel
theorem dX12_playerByCoins_4 : decode cX12_playerByCoins 4 = .ok (.iload_n 1, 1) := by decide +kernel
theorem dX12_playerByCoins_5 : decode cX12_playerByCoins 5 = .ok (.invokevirtual 295, 3) := by decide +kernel
theorem dX12_playerByCoins_8 : decode cX12_playerByCoins 8 = .ok (.ifCond .ne 13, 3) := by decide +kernel
theorem dX12_playerByCoins_11 : decode cX12_playerByCoins 11 = .ok (.new 175, 3) := by decide +kernel
theorem dX12_playerByCoins_14 : decode cX12_playerByCoins 14 = .ok (.dup, 1) := by decide +kernel
theorem dX12_playerByCoins_15 : decode cX12_playerByCoins 15 = .ok (.ldc 177, 2) := by decide +kernel
theorem dX12_playerByCoins_17 : decode cX12_playerByCoins 17 = .ok (.invokespecial 179, 3) := by decide +kernel
theorem dX12_playerByCoins_20 : decode cX12_playerByCoins 20 = .ok (.athrow, 1) := by decide +kernel
theorem dX12_playerByCoins_21 : decode cX12_playerByCoins 21 = .ok (.aload_n 0, 1) := by decide +kernel
theorem dX12_playerByCoins_22 : decode cX12_playerByCoins 22 = .ok (.getfield 25, 3) := by decide +kernel
theorem dX12_playerByCoins_25 : decode cX12_playerByCoins 25 = .ok (.iload_n 1, 1) := by decide +kernel
theorem dX12_playerByCoins_26 : decode cX12_playerByCoins 26 = .ok (.invokevirtual 298, 3) := by decide +kernel
theorem dX12_playerByCoins_29 : decode cX12_playerByCoins 29 = .ok (.ireturn, 1) := by decide +kernel
theorem dX12_stakeShare_0 : decode cX12_stakeShare 0 = .ok (.aload_n 0, 1) := by decide +kernel
theorem dX12_stakeShare_1 : decode cX12_stakeShare 1 = .ok (.iload_n 1, 1) := by decide +kernel
theorem dX12_stakeShare_2 : decode cX12_stakeShare 2 = .ok (.invokevirtual 278, 3) := by decide +kernel
theorem dX12_stakeShare_5 : decode cX12_stakeShare 5 = .ok (.aload_n 0, 1) := by decide +kernel
theorem dX12_stakeShare_6 : decode cX12_stakeShare 6 = .ok (.getfield 25, 3) := by decide +kernel
theorem dX12_stakeShare_9 : decode cX12_stakeShare 9 = .ok (.invokevirtual 289, 3) := by decide +kernel
theorem dX12_stakeShare_12 : decode cX12_stakeShare 12 = .ok (.istore_n 2, 1) := by decide +kernel
theorem dX12_stakeShare_13 : decode cX12_stakeShare 13 = .ok (.iload_n 2, 1) := by decide +kernel
theorem dX12_stakeShare_14 : decode cX12_stakeShare 14 = .ok (.ifCond .ne 14, 3) := by decide +kernel
theorem dX12_stakeShare_17 : decode cX12_stakeShare 17 = .ok (.new 301, 3) := by decide +kernel
theorem dX12_stakeShare_20 : decode cX12_stakeShare 20 = .ok (.dup, 1) := by decide +kernel
theorem dX12_stakeShare_21 : decode cX12_stakeShare 21 = .ok (.ldc_w 303, 3) := by decide +kernel
theorem dX12_stakeShare_24 : decode cX12_stakeShare 24 = .ok (.invokespecial 305, 3) := by decide +kernel
theorem dX12_stakeShare_27 : decode cX12_stakeShare 27 = .ok (.athrow, 1) := by decide +kernel
theorem dX12_stakeShare_28 : decode cX12_stakeShare 28 = .ok (.aload_n 0, 1) := by decide +kernel
theorem dX12_stakeShare_29 : decode cX12_stakeShare 29 = .ok (.getfield 25, 3) := by decide +kernel
theorem dX12_stakeShare_32 : decode cX12_stakeShare 32 = .ok (.getfield 281, 3) := by decide +kernel
theorem dX12_stakeShare_35 : decode cX12_stakeShare 35 = .ok (.iload_n 1, 1) := by decide +kernel
theorem dX12_stakeShare_36 : decode cX12_stakeShare 36 = .ok (.iaload, 1) := by decide +kernel
theorem dX12_stakeShare_37 : decode cX12_stakeShare 37 = .ok (.i2f, 1) := by decide +kernel
theorem dX12_stakeShare_38 : decode cX12_stakeShare 38 = .ok (.iload_n 2, 1) := by decide +kernel
theorem dX12_stakeShare_39 : decode cX12_stakeShare 39 = .ok (.i2f, 1) := by decide +kernel
theorem dX12_stakeShare_40 : decode cX12_stakeShare 40 = .ok (.fdiv, 1) := by decide +kernel
theorem dX12_stakeShare_41 : decode cX12_stakeShare 41 = .ok (.freturn, 1) := by decide +kernel
theorem dX12_isConsistent_0 : decode cX12_isConsistent 0 = .ok (.aload_n 0, 1) := by decide +kernel
theorem dX12_isConsistent_1 : decode cX12_isConsistent 1 = .ok (.getfield 52, 3) := by decide +kernel
theorem dX12_isConsistent_4 : decode cX12_isConsistent 4 = .ok (.aload_n 0, 1) := by decide +kernel
theorem dX12_isConsistent_5 : decode cX12_isConsistent 5 = .ok (.getfield 20, 3) := by decide +kernel
theorem dX12_isConsistent_8 : decode cX12_isConsistent 8 = .ok (.invokevirtual 215, 3) := by decide +kernel
theorem dX12_isConsistent_11 : decode cX12_isConsistent 11 = .ok (.aload_n 0, 1) := by decide +kernel
theorem dX12_isConsistent_12 : decode cX12_isConsistent 12 = .ok (.getfield 52, 3) := by decide +kernel
theorem dX12_isConsistent_15 : decode cX12_isConsistent 15 = .ok (.aload_n 0, 1) := by decide +kernel
theorem dX12_isConsistent_16 : decode cX12_isConsistent 16 = .ok (.getfield 20, 3) := by decide +kernel
theorem dX12_isConsistent_19 : decode cX12_isConsistent 19 = .ok (.invokevirtual 225, 3) := by decide +kernel
theorem dX12_isConsistent_22 : decode cX12_isConsistent 22 = .ok (.aload_n 0, 1) := by decide +kernel
theorem dX12_isConsistent_23 : decode cX12_isConsistent 23 = .ok (.getfield 45, 3) := by decide +kernel
theorem dX12_isConsistent_26 : decode cX12_isConsistent 26 = .ok (.aload_n 0, 1) := by decide +kernel
theorem dX12_isConsistent_27 : decode cX12_isConsistent 27 = .ok (.getfield 20, 3) := by decide +kernel
theorem dX12_isConsistent_30 : decode cX12_isConsistent 30 = .ok (.iconst 3, 1) := by decide +kernel
theorem dX12_isConsistent_31 : decode cX12_isConsistent 31 = .ok (.invokevirtual 196, 3) := by decide +kernel
theorem dX12_isConsistent_34 : decode cX12_isConsistent 34 = .ok (.istore_n 1, 1) := by decide +kernel
theorem dX12_isConsistent_35 : decode cX12_isConsistent 35 = .ok (.aload_n 0, 1) := by decide +kernel
theorem dX12_isConsistent_36 : decode cX12_isConsistent 36 = .ok (.getfield 52, 3) := by decide +kernel
theorem dX12_isConsistent_39 : decode cX12_isConsistent 39 = .ok (.invokevirtual 306, 3) := by decide +kernel
theorem dX12_isConsistent_42 : decode cX12_isConsistent 42 = .ok (.ifCond .eq 73, 3) := by decide +kernel
theorem dX12_isConsistent_45 : decode cX12_isConsistent 45 = .ok (.iload_n 1, 1) := by decide +kernel
theorem dX12_isConsistent_46 : decode cX12_isConsistent 46 = .ok (.aload_n 0, 1) := by decide +kernel
theorem dX12_isConsistent_47 : decode cX12_isConsistent 47 = .ok (.getfield 45, 3) := by decide +kernel
theorem dX12_isConsistent_50 : decode cX12_isConsistent 50 = .ok (.aload_n 0, 1) := by decide +kernel
theorem dX12_isConsistent_51 : decode cX12_isConsistent 51 = .ok (.getfield 20, 3) := by decide +kernel
theorem dX12_isConsistent_54 : decode cX12_isConsistent 54 = .ok (.invokevirtual 200, 3) := by decide +kernel
theorem dX12_isConsistent_57 : decode cX12_isConsistent 57 = .ok (.if_icmp .ne 58, 3) := by decide +kernel
theorem dX12_isConsistent_60 : decode cX12_isConsistent 60 = .ok (.iload_n 1, 1) := by decide +kernel
theorem dX12_isConsistent_61 : decode cX12_isConsistent 61 = .ok (.iconst 3, 1) := by decide +kernel
theorem dX12_isConsistent_62 : decode cX12_isConsistent 62 = .ok (.irem, 1) := by decide +kernel
theorem dX12_isConsistent_63 : decode cX12_isConsistent 63 = .ok (.ifCond .ne 52, 3) := by decide +kernel
theorem dX12_isConsistent_66 : decode cX12_isConsistent 66 = .ok (.aload_n 0, 1) := by decide +kernel
theorem dX12_isConsistent_67 : decode cX12_isConsistent 67 = .ok (.getfield 59, 3) := by decide +kernel
theorem dX12_isConsistent_70 : decode cX12_isConsistent 70 = .ok (.aload_n 0, 1) := by decide +kernel
theorem dX12_isConsistent_71 : decode cX12_isConsistent 71 = .ok (.getfield 20, 3) := by decide +kernel
theorem dX12_isConsistent_74 : decode cX12_isConsistent 74 = .ok (.invokevirtual 244, 3) := by decide +kernel
theorem dX12_isConsistent_77 : decode cX12_isConsistent 77 = .ok (.aload_n 0, 1) := by decide +kernel
theorem dX12_isConsistent_78 : decode cX12_isConsistent 78 = .ok (.getfield 59, 3) := by decide +kernel
theorem dX12_isConsistent_81 : decode cX12_isConsistent 81 = .ok (.aload_n 0, 1) := by decide +kernel
theorem dX12_isConsistent_82 : decode cX12_isConsistent 82 = .ok (.getfield 20, 3) := by decide +kernel
theorem dX12_isConsistent_85 : decode cX12_isConsistent 85 = .ok (.invokevirtual 250, 3) := by decide +kernel
theorem dX12_isConsistent_88 : decode cX12_isConsistent 88 = .ok (.if_icmp .ne 27, 3) := by decide +kernel
theorem dX12_isConsistent_91 : decode cX12_isConsistent 91 = .ok (.aload_n 0, 1) := by decide +kernel
theorem dX12_isConsistent_92 : decode cX12_isConsistent 92 = .ok (.getfield 25, 3) := by decide +kernel
theorem dX12_isConsistent_95 : decode cX12_isConsistent 95 = .ok (.invokevirtual 309, 3) := by decide +kernel
theorem dX12_isConsistent_98 : decode cX12_isConsistent 98 = .ok (.bipush 100, 2) := by decide +kernel
theorem dX12_isConsistent_100 : decode cX12_isConsistent 100 = .ok (.aload_n 0, 1) := by decide +kernel
theorem dX12_isConsistent_101 : decode cX12_isConsistent 101 = .ok (.getfield 25, 3) := by decide +kernel
theorem dX12_isConsistent_104 : decode cX12_isConsistent 104 = .ok (.getfield 264, 3) := by decide +kernel
theorem dX12_isConsistent_107 : decode cX12_isConsistent 107 = .ok (.imul, 1) := by decide +kernel
theorem dX12_isConsistent_108 : decode cX12_isConsistent 108 = .ok (.if_icmp .ne 7, 3) := by decide +kernel
theorem dX12_isConsistent_111 : decode cX12_isConsistent 111 = .ok (.iconst 1, 1) := by decide +kernel
theorem dX12_isConsistent_112 : decode cX12_isConsistent 112 = .ok (.goto 4, 3) := by decide +kernel
theorem dX12_isConsistent_115 : decode cX12_isConsistent 115 = .ok (.iconst 0, 1) := by decide +kernel
theorem dX12_isConsistent_116 : decode cX12_isConsistent 116 = .ok (.ireturn, 1) := by decide +kernel
theorem dX12_renderDiagram_0 : decode cX12_renderDiagram 0 = .ok (.aload_n 0, 1) := by decide +kernel
theorem dX12_renderDiagram_1 : decode cX12_renderDiagram 1 = .ok (.getfield 73, 3) := by decide +kernel
theorem dX12_renderDiagram_4 : decode cX12_renderDiagram 4 = .ok (.invokevirtual 312, 3) := by decide +kernel
theorem dX12_renderDiagram_7 : decode cX12_renderDiagram 7 = .ok (.iconst 0, 1) := by decide +kernel
theorem dX12_renderDiagram_8 : decode cX12_renderDiagram 8 = .ok (.istore_n 1, 1) := by decide +kernel
theorem dX12_renderDiagram_9 : decode cX12_renderDiagram 9 = .ok (.iload_n 1, 1) := by decide +kernel
theorem dX12_renderDiagram_10 : decode cX12_renderDiagram 10 = .ok (.aload_n 0, 1) := by decide +kernel
theorem dX12_renderDiagram_11 : decode cX12_renderDiagram 11 = .ok (.getfield 20, 3) := by decide +kernel
theorem dX12_renderDiagram_14 : decode cX12_renderDiagram 14 = .ok (.invokevirtual 315, 3) := by decide +kernel
theorem dX12_renderDiagram_17 : decode cX12_renderDiagram 17 = .ok (.if_icmp .ge 87, 3) := by decide +kernel
theorem dX12_renderDiagram_20 : decode cX12_renderDiagram 20 = .ok (.iload_n 1, 1) := by decide +kernel
theorem dX12_renderDiagram_21 : decode cX12_renderDiagram 21 = .ok (.ifCond .le 12, 3) := by decide +kernel
theorem dX12_renderDiagram_24 : decode cX12_renderDiagram 24 = .ok (.aload_n 0, 1) := by decide +kernel
theorem dX12_renderDiagram_25 : decode cX12_renderDiagram 25 = .ok (.getfield 73, 3) := by decide +kernel
theorem dX12_renderDiagram_28 : decode cX12_renderDiagram 28 = .ok (.bipush 32, 2) := by decide +kernel
theorem dX12_renderDiagram_30 : decode cX12_renderDiagram 30 = .ok (.invokevirtual 318, 3) := by decide +kernel
theorem dX12_renderDiagram_33 : decode cX12_renderDiagram 33 = .ok (.aload_n 0, 1) := by decide +kernel
theorem dX12_renderDiagram_34 : decode cX12_renderDiagram 34 = .ok (.getfield 73, 3) := by decide +kernel
theorem dX12_renderDiagram_37 : decode cX12_renderDiagram 37 = .ok (.aload_n 0, 1) := by decide +kernel
theorem dX12_renderDiagram_38 : decode cX12_renderDiagram 38 = .ok (.getfield 20, 3) := by decide +kernel
theorem dX12_renderDiagram_41 : decode cX12_renderDiagram 41 = .ok (.iload_n 1, 1) := by decide +kernel
theorem dX12_renderDiagram_42 : decode cX12_renderDiagram 42 = .ok (.invokevirtual 143, 3) := by decide +kernel
theorem dX12_renderDiagram_45 : decode cX12_renderDiagram 45 = .ok (.ifCond .eq 8, 3) := by decide +kernel
theorem dX12_renderDiagram_48 : decode cX12_renderDiagram 48 = .ok (.bipush 111, 2) := by decide +kernel
theorem dX12_renderDiagram_50 : decode cX12_renderDiagram 50 = .ok (.goto 5, 3) := by decide +kernel
theorem dX12_renderDiagram_53 : decode cX12_renderDiagram 53 = .ok (.bipush 117, 2) := by decide +kernel
theorem dX12_renderDiagram_55 : decode cX12_renderDiagram 55 = .ok (.invokevirtual 318, 3) := by decide +kernel
theorem dX12_renderDiagram_58 : decode cX12_renderDiagram 58 = .ok (.aload_n 0, 1) := by decide +kernel
theorem dX12_renderDiagram_59 : decode cX12_renderDiagram 59 = .ok (.getfield 73, 3) := by decide +kernel
theorem dX12_renderDiagram_62 : decode cX12_renderDiagram 62 = .ok (.aload_n 0, 1) := by decide +kernel
theorem dX12_renderDiagram_63 : decode cX12_renderDiagram 63 = .ok (.getfield 20, 3) := by decide +kernel
theorem dX12_renderDiagram_66 : decode cX12_renderDiagram 66 = .ok (.iload_n 1, 1) := by decide +kernel
theorem dX12_renderDiagram_67 : decode cX12_renderDiagram 67 = .ok (.invokevirtual 129, 3) := by decide +kernel
theorem dX12_renderDiagram_70 : decode cX12_renderDiagram 70 = .ok (.invokevirtual 322, 3) := by decide +kernel
theorem dX12_renderDiagram_73 : decode cX12_renderDiagram 73 = .ok (.aload_n 0, 1) := by decide +kernel
theorem dX12_renderDiagram_74 : decode cX12_renderDiagram 74 = .ok (.getfield 73, 3) := by decide +kernel
theorem dX12_renderDiagram_77 : decode cX12_renderDiagram 77 = .ok (.aload_n 0, 1) := by decide +kernel
theorem dX12_renderDiagram_78 : decode cX12_renderDiagram 78 = .ok (.getfield 20, 3) := by decide +kernel
theorem dX12_renderDiagram_81 : decode cX12_renderDiagram 81 = .ok (.iload_n 1, 1) := by decide +kernel
theorem dX12_renderDiagram_82 : decode cX12_renderDiagram 82 = .ok (.invokevirtual 325, 3) := by decide +kernel
theorem dX12_renderDiagram_85 : decode cX12_renderDiagram 85 = .ok (.ifCond .eq 8, 3) := by decide +kernel
theorem dX12_renderDiagram_88 : decode cX12_renderDiagram 88 = .ok (.bipush 43, 2) := by decide +kernel
theorem dX12_renderDiagram_90 : decode cX12_renderDiagram 90 = .ok (.goto 5, 3) := by decide +kernel
theorem dX12_renderDiagram_93 : decode cX12_renderDiagram 93 = .ok (.bipush 45, 2) := by decide +kernel
theorem dX12_renderDiagram_95 : decode cX12_renderDiagram 95 = .ok (.invokevirtual 318, 3) := by decide +kernel
theorem dX12_renderDiagram_98 : decode cX12_renderDiagram 98 = .ok (.iinc 1 1, 3) := by decide +kernel
theorem dX12_renderDiagram_101 : decode cX12_renderDiagram 101 = .ok (.goto (-92), 3) := by decide +kernel
theorem dX12_renderDiagram_104 : decode cX12_renderDiagram 104 = .ok (.aload_n 0, 1) := by decide +kernel
theorem dX12_renderDiagram_105 : decode cX12_renderDiagram 105 = .ok (.getfield 73, 3) := by decide +kernel
theorem dX12_renderDiagram_108 : decode cX12_renderDiagram 108 = .ok (.getfield 328, 3) := by decide +kernel
theorem dX12_renderDiagram_111 : decode cX12_renderDiagram 111 = .ok (.ireturn, 1) := by decide +kernel
theorem dX12_renderPolynomial_0 : decode cX12_renderPolynomial 0 = .ok (.aload_n 0, 1) := by decide +kernel
theorem dX12_renderPolynomial_1 : decode cX12_renderPolynomial 1 = .ok (.getfield 52, 3) := by decide +kernel
theorem dX12_renderPolynomial_4 : decode cX12_renderPolynomial 4 = .ok (.aload_n 0, 1) := by decide +kernel
theorem dX12_renderPolynomial_5 : decode cX12_renderPolynomial 5 = .ok (.getfield 20, 3) := by decide +kernel
theorem dX12_renderPolynomial_8 : decode cX12_renderPolynomial 8 = .ok (.invokevirtual 231, 3) := by decide +kernel
theorem dX12_renderPolynomial_11 : decode cX12_renderPolynomial 11 = .ok (.aload_n 0, 1) := by decide +kernel
theorem dX12_renderPolynomial_12 : decode cX12_renderPolynomial 12 = .ok (.getfield 73, 3) := by decide +kernel
theorem dX12_renderPolynomial_15 : decode cX12_renderPolynomial 15 = .ok (.invokevirtual 312, 3) := by decide +kernel
theorem dX12_renderPolynomial_18 : decode cX12_renderPolynomial 18 = .ok (.bipush (-50), 2) := by decide +kernel
theorem dX12_renderPolynomial_20 : decode cX12_renderPolynomial 20 = .ok (.istore_n 1, 1) := by decide +kernel
theorem dX12_renderPolynomial_21 : decode cX12_renderPolynomial 21 = .ok (.iload_n 1, 1) := by decide +kernel
theorem dX12_renderPolynomial_22 : decode cX12_renderPolynomial 22 = .ok (.bipush 50, 2) := by decide +kernel
theorem dX12_renderPolynomial_24 : decode cX12_renderPolynomial 24 = .ok (.if_icmp .gt 69, 3) := by decide +kernel
theorem dX12_renderPolynomial_27 : decode cX12_renderPolynomial 27 = .ok (.aload_n 0, 1) := by decide +kernel
theorem dX12_renderPolynomial_28 : decode cX12_renderPolynomial 28 = .ok (.getfield 52, 3) := by decide +kernel
theorem dX12_renderPolynomial_31 : decode cX12_renderPolynomial 31 = .ok (.getfield 234, 3) := by decide +kernel
theorem dX12_renderPolynomial_34 : decode cX12_renderPolynomial 34 = .ok (.iload_n 1, 1) := by decide +kernel
theorem dX12_renderPolynomial_35 : decode cX12_renderPolynomial 35 = .ok (.invokestatic 221, 3) := by decide +kernel
theorem dX12_renderPolynomial_38 : decode cX12_renderPolynomial 38 = .ok (.istore_n 2, 1) := by decide +kernel
theorem dX12_renderPolynomial_39 : decode cX12_renderPolynomial 39 = .ok (.iload_n 2, 1) := by decide +kernel
theorem dX12_renderPolynomial_40 : decode cX12_renderPolynomial 40 = .ok (.ifCond .eq 47, 3) := by decide +kernel
theorem dX12_renderPolynomial_43 : decode cX12_renderPolynomial 43 = .ok (.aload_n 0, 1) := by decide +kernel
theorem dX12_renderPolynomial_44 : decode cX12_renderPolynomial 44 = .ok (.getfield 73, 3) := by decide +kernel
theorem dX12_renderPolynomial_47 : decode cX12_renderPolynomial 47 = .ok (.getfield 328, 3) := by decide +kernel
theorem dX12_renderPolynomial_50 : decode cX12_renderPolynomial 50 = .ok (.ifCond .le 12, 3) := by decide +kernel
theorem dX12_renderPolynomial_53 : decode cX12_renderPolynomial 53 = .ok (.aload_n 0, 1) := by decide +kernel
theorem dX12_renderPolynomial_54 : decode cX12_renderPolynomial 54 = .ok (.getfield 73, 3) := by decide +kernel
theorem dX12_renderPolynomial_57 : decode cX12_renderPolynomial 57 = .ok (.bipush 32, 2) := by decide +kernel
theorem dX12_renderPolynomial_59 : decode cX12_renderPolynomial 59 = .ok (.invokevirtual 318, 3) := by decide +kernel
theorem dX12_renderPolynomial_62 : decode cX12_renderPolynomial 62 = .ok (.aload_n 0, 1) := by decide +kernel
theorem dX12_renderPolynomial_63 : decode cX12_renderPolynomial 63 = .ok (.getfield 73, 3) := by decide +kernel
theorem dX12_renderPolynomial_66 : decode cX12_renderPolynomial 66 = .ok (.iload_n 2, 1) := by decide +kernel
theorem dX12_renderPolynomial_67 : decode cX12_renderPolynomial 67 = .ok (.invokevirtual 322, 3) := by decide +kernel
theorem dX12_renderPolynomial_70 : decode cX12_renderPolynomial 70 = .ok (.aload_n 0, 1) := by decide +kernel
theorem dX12_renderPolynomial_71 : decode cX12_renderPolynomial 71 = .ok (.getfield 73, 3) := by decide +kernel
theorem dX12_renderPolynomial_74 : decode cX12_renderPolynomial 74 = .ok (.bipush 97, 2) := by decide +kernel
theorem dX12_renderPolynomial_76 : decode cX12_renderPolynomial 76 = .ok (.invokevirtual 318, 3) := by decide +kernel
theorem dX12_renderPolynomial_79 : decode cX12_renderPolynomial 79 = .ok (.aload_n 0, 1) := by decide +kernel
theorem dX12_renderPolynomial_80 : decode cX12_renderPolynomial 80 = .ok (.getfield 73, 3) := by decide +kernel
theorem dX12_renderPolynomial_83 : decode cX12_renderPolynomial 83 = .ok (.iload_n 1, 1) := by decide +kernel
theorem dX12_renderPolynomial_84 : decode cX12_renderPolynomial 84 = .ok (.invokevirtual 322, 3) := by decide +kernel
theorem dX12_renderPolynomial_87 : decode cX12_renderPolynomial 87 = .ok (.iinc 1 1, 3) := by decide +kernel
theorem dX12_renderPolynomial_90 : decode cX12_renderPolynomial 90 = .ok (.goto (-69), 3) := by decide +kernel
theorem dX12_renderPolynomial_93 : decode cX12_renderPolynomial 93 = .ok (.aload_n 0, 1) := by decide +kernel
theorem dX12_renderPolynomial_94 : decode cX12_renderPolynomial 94 = .ok (.getfield 73, 3) := by decide +kernel
theorem dX12_renderPolynomial_97 : decode cX12_renderPolynomial 97 = .ok (.getfield 328, 3) := by decide +kernel
theorem dX12_renderPolynomial_100 : decode cX12_renderPolynomial 100 = .ok (.ireturn, 1) := by decide +kernel
theorem dX12_outputAt_0 : decode cX12_outputAt 0 = .ok (.iload_n 1, 1) := by decide +kernel
theorem dX12_outputAt_1 : decode cX12_outputAt 1 = .ok (.ifCond .lt 14, 3) := by decide +kernel
theorem dX12_outputAt_4 : decode cX12_outputAt 4 = .ok (.iload_n 1, 1) := by decide +kernel
theorem dX12_outputAt_5 : decode cX12_outputAt 5 = .ok (.aload_n 0, 1) := by decide +kernel
theorem dX12_outputAt_6 : decode cX12_outputAt 6 = .ok (.getfield 73, 3) := by decide +kernel
theorem dX12_outputAt_9 : decode cX12_outputAt 9 = .ok (.getfield 328, 3) := by decide +kernel
theorem dX12_outputAt_12 : decode cX12_outputAt 12 = .ok (.if_icmp .lt 14, 3) := by decide +kernel
theorem dX12_outputAt_15 : decode cX12_outputAt 15 = .ok (.new 331, 3) := by decide +kernel
theorem dX12_outputAt_18 : decode cX12_outputAt 18 = .ok (.dup, 1) := by decide +kernel
theorem dX12_outputAt_19 : decode cX12_outputAt 19 = .ok (.ldc_w 333, 3) := by decide +kernel
theorem dX12_outputAt_22 : decode cX12_outputAt 22 = .ok (.invokespecial 335, 3) := by decide +kernel
theorem dX12_outputAt_25 : decode cX12_outputAt 25 = .ok (.athrow, 1) := by decide +kernel
theorem dX12_outputAt_26 : decode cX12_outputAt 26 = .ok (.aload_n 0, 1) := by decide +kernel
theorem dX12_outputAt_27 : decode cX12_outputAt 27 = .ok (.getfield 73, 3) := by decide +kernel
theorem dX12_outputAt_30 : decode cX12_outputAt 30 = .ok (.getfield 336, 3) := by decide +kernel
theorem dX12_outputAt_33 : decode cX12_outputAt 33 = .ok (.iload_n 1, 1) := by decide +kernel
theorem dX12_outputAt_34 : decode cX12_outputAt 34 = .ok (.caload, 1) := by decide +kernel
theorem dX12_outputAt_35 : decode cX12_outputAt 35 = .ok (.ireturn, 1) := by decide +kernel
theorem dX12_type_0 : decode cX12_type 0 = .ok (.iload_n 1, 1) := by decide +kernel
theorem dX12_type_1 : decode cX12_type 1 = .ok (.bipush 32, 2) := by decide +kernel
theorem dX12_type_3 : decode cX12_type 3 = .ok (.if_icmp .lt 9, 3) := by decide +kernel
theorem dX12_type_6 : decode cX12_type 6 = .ok (.iload_n 1, 1) := by decide +kernel
theorem dX12_type_7 : decode cX12_type 7 = .ok (.bipush 126, 2) := by decide +kernel
theorem dX12_type_9 : decode cX12_type 9 = .ok (.if_icmp .le 14, 3) := by decide +kernel
theorem dX12_type_12 : decode cX12_type 12 = .ok (.new 191, 3) := by decide +kernel
theorem dX12_type_15 : decode cX12_type 15 = .ok (.dup, 1) := by decide +kernel
theorem dX12_type_16 : decode cX12_type 16 = .ok (.ldc_w 340, 3) := by decide +kernel
theorem dX12_type_19 : decode cX12_type 19 = .ok (.invokespecial 195, 3) := by decide +kernel
theorem dX12_type_22 : decode cX12_type 22 = .ok (.athrow, 1) := by decide +kernel
theorem dX12_type_23 : decode cX12_type 23 = .ok (.aload_n 0, 1) := by decide +kernel
theorem dX12_type_24 : decode cX12_type 24 = .ok (.getfield 66, 3) := by decide +kernel
theorem dX12_type_27 : decode cX12_type 27 = .ok (.getfield 342, 3) := by decide +kernel
theorem dX12_type_30 : decode cX12_type 30 = .ok (.bipush 60, 2) := by decide +kernel
theorem dX12_type_32 : decode cX12_type 32 = .ok (.if_icmp .lt 14, 3) := by decide +kernel
theorem dX12_type_35 : decode cX12_type 35 = .ok (.new 343, 3) := by decide +kernel
theorem dX12_type_38 : decode cX12_type 38 = .ok (.dup, 1) := by decide +kernel
theorem dX12_type_39 : decode cX12_type 39 = .ok (.ldc_w 345, 3) := by decide +kernel
theorem dX12_type_42 : decode cX12_type 42 = .ok (.invokespecial 347, 3) := by decide +kernel
theorem dX12_type_45 : decode cX12_type 45 = .ok (.athrow, 1) := by decide +kernel
theorem dX12_type_46 : decode cX12_type 46 = .ok (.aload_n 0, 1) := by decide +kernel
theorem dX12_type_47 : decode cX12_type 47 = .ok (.getfield 66, 3) := by decide +kernel
theorem dX12_type_50 : decode cX12_type 50 = .ok (.iload_n 1, 1) := by decide +kernel
theorem dX12_type_51 : decode cX12_type 51 = .ok (.invokevirtual 348, 3) := by decide +kernel
theorem dX12_type_54 : decode cX12_type 54 = .ok (.aload_n 0, 1) := by decide +kernel
theorem dX12_type_55 : decode cX12_type 55 = .ok (.getfield 66, 3) := by decide +kernel
theorem dX12_type_58 : decode cX12_type 58 = .ok (.getfield 342, 3) := by decide +kernel
theorem dX12_type_61 : decode cX12_type 61 = .ok (.ireturn, 1) := by decide +kernel
theorem dX12_runScript_0 : decode cX12_runScript 0 = .ok (.aload_n 0, 1) := by decide +kernel
theorem dX12_runScript_1 : decode cX12_runScript 1 = .ok (.getfield 66, 3) := by decide +kernel
theorem dX12_runScript_4 : decode cX12_runScript 4 = .ok (.invokevirtual 351, 3) := by decide +kernel
theorem dX12_runScript_7 : decode cX12_runScript 7 = .ok (.istore_n 1, 1) := by decide +kernel
theorem dX12_runScript_8 : decode cX12_runScript 8 = .ok (.iload_n 1, 1) := by decide +kernel
theorem dX12_runScript_9 : decode cX12_runScript 9 = .ok (.iconst (-1), 1) := by decide +kernel
theorem dX12_runScript_10 : decode cX12_runScript 10 = .ok (.if_icmp .eq 26, 3) := by decide +kernel
theorem dX12_runScript_13 : decode cX12_runScript 13 = .ok (.aload_n 0, 1) := by decide +kernel
theorem dX12_runScript_14 : decode cX12_runScript 14 = .ok (.iload_n 1, 1) := by decide +kernel
theorem dX12_runScript_15 : decode cX12_runScript 15 = .ok (.putfield 77, 3) := by decide +kernel
theorem dX12_runScript_18 : decode cX12_runScript 18 = .ok (.aload_n 0, 1) := by decide +kernel
theorem dX12_runScript_19 : decode cX12_runScript 19 = .ok (.getfield 66, 3) := by decide +kernel
theorem dX12_runScript_22 : decode cX12_runScript 22 = .ok (.invokevirtual 354, 3) := by decide +kernel
theorem dX12_runScript_25 : decode cX12_runScript 25 = .ok (.new 191, 3) := by decide +kernel
theorem dX12_runScript_28 : decode cX12_runScript 28 = .ok (.dup, 1) := by decide +kernel
theorem dX12_runScript_29 : decode cX12_runScript 29 = .ok (.ldc_w 355, 3) := by decide +kernel
theorem dX12_runScript_32 : decode cX12_runScript 32 = .ok (.invokespecial 195, 3) := by decide +kernel
theorem dX12_runScript_35 : decode cX12_runScript 35 = .ok (.athrow, 1) := by decide +kernel
theorem dX12_runScript_36 : decode cX12_runScript 36 = .ok (.aload_n 0, 1) := by decide +kernel
theorem dX12_runScript_37 : decode cX12_runScript 37 = .ok (.getfield 38, 3) := by decide +kernel
theorem dX12_runScript_40 : decode cX12_runScript 40 = .ok (.aload_n 0, 1) := by decide +kernel
theorem dX12_runScript_41 : decode cX12_runScript 41 = .ok (.getfield 10, 3) := by decide +kernel
theorem dX12_runScript_44 : decode cX12_runScript 44 = .ok (.invokevirtual 84, 3) := by decide +kernel
theorem dX12_runScript_47 : decode cX12_runScript 47 = .ok (.iconst 0, 1) := by decide +kernel
theorem dX12_runScript_48 : decode cX12_runScript 48 = .ok (.istore_n 2, 1) := by decide +kernel
theorem dX12_runScript_49 : decode cX12_runScript 49 = .ok (.aload_n 0, 1) := by decide +kernel
theorem dX12_runScript_50 : decode cX12_runScript 50 = .ok (.getfield 66, 3) := by decide +kernel
theorem dX12_runScript_53 : decode cX12_runScript 53 = .ok (.invokevirtual 357, 3) := by decide +kernel
theorem dX12_runScript_56 : decode cX12_runScript 56 = .ok (.iload_n 2, 1) := by decide +kernel
theorem dX12_runScript_57 : decode cX12_runScript 57 = .ok (.bipush 60, 2) := by decide +kernel
theorem dX12_runScript_59 : decode cX12_runScript 59 = .ok (.if_icmp .ge 80, 3) := by decide +kernel
theorem dX12_runScript_62 : decode cX12_runScript 62 = .ok (.aload_n 0, 1) := by decide +kernel
theorem dX12_runScript_63 : decode cX12_runScript 63 = .ok (.getfield 66, 3) := by decide +kernel
theorem dX12_runScript_66 : decode cX12_runScript 66 = .ok (.invokevirtual 360, 3) := by decide +kernel
theorem dX12_runScript_69 : decode cX12_runScript 69 = .ok (.ifCond .eq 70, 3) := by decide +kernel
theorem dX12_runScript_72 : decode cX12_runScript 72 = .ok (.aload_n 0, 1) := by decide +kernel
theorem dX12_runScript_73 : decode cX12_runScript 73 = .ok (.aload_n 0, 1) := by decide +kernel
theorem dX12_runScript_74 : decode cX12_runScript 74 = .ok (.getfield 66, 3) := by decide +kernel
theorem dX12_runScript_77 : decode cX12_runScript 77 = .ok (.getfield 363, 3) := by decide +kernel
theorem dX12_runScript_80 : decode cX12_runScript 80 = .ok (.aload_n 0, 1) := by decide +kernel
theorem dX12_runScript_81 : decode cX12_runScript 81 = .ok (.getfield 66, 3) := by decide +kernel
theorem dX12_runScript_84 : decode cX12_runScript 84 = .ok (.getfield 367, 3) := by decide +kernel
theorem dX12_runScript_87 : decode cX12_runScript 87 = .ok (.invokevirtual 370, 3) := by decide +kernel
theorem dX12_runScript_90 : decode cX12_runScript 90 = .ok (.getstatic 374, 3) := by decide +kernel
theorem dX12_runScript_93 : decode cX12_runScript 93 = .ok (.if_acmp .eq 40, 3) := by decide +kernel
theorem dX12_runScript_96 : decode cX12_runScript 96 = .ok (.aload_n 0, 1) := by decide +kernel
theorem dX12_runScript_97 : decode cX12_runScript 97 = .ok (.iload_n 2, 1) := by decide +kernel
theorem dX12_runScript_98 : decode cX12_runScript 98 = .ok (.putfield 81, 3) := by decide +kernel
theorem dX12_runScript_101 : decode cX12_runScript 101 = .ok (.aload_n 0, 1) := by decide +kernel
theorem dX12_runScript_102 : decode cX12_runScript 102 = .ok (.getfield 66, 3) := by decide +kernel
theorem dX12_runScript_105 : decode cX12_runScript 105 = .ok (.invokevirtual 354, 3) := by decide +kernel
theorem dX12_runScript_108 : decode cX12_runScript 108 = .ok (.aload_n 0, 1) := by decide +kernel
theorem dX12_runScript_109 : decode cX12_runScript 109 = .ok (.getfield 10, 3) := by decide +kernel
theorem dX12_runScript_112 : decode cX12_runScript 112 = .ok (.aload_n 0, 1) := by decide +kernel
theorem dX12_runScript_113 : decode cX12_runScript 113 = .ok (.getfield 38, 3) := by decide +kernel
theorem dX12_runScript_116 : decode cX12_runScript 116 = .ok (.invokevirtual 380, 3) := by decide +kernel
theorem dX12_runScript_119 : decode cX12_runScript 119 = .ok (.invokevirtual 384, 3) := by decide +kernel
theorem dX12_runScript_122 : decode cX12_runScript 122 = .ok (.new 343, 3) := by decide +kernel
theorem dX12_runScript_125 : decode cX12_runScript 125 = .ok (.dup, 1) := by decide +kernel
theorem dX12_runScript_126 : decode cX12_runScript 126 = .ok (.ldc_w 386, 3) := by decide +kernel
theorem dX12_runScript_129 : decode cX12_runScript 129 = .ok (.invokespecial 347, 3) := by decide +kernel
theorem dX12_runScript_132 : decode cX12_runScript 132 = .ok (.athrow, 1) := by decide +kernel
theorem dX12_runScript_133 : decode cX12_runScript 133 = .ok (.iinc 2 1, 3) := by decide +kernel
theorem dX12_runScript_136 : decode cX12_runScript 136 = .ok (.goto (-80), 3) := by decide +kernel
theorem dX12_runScript_139 : decode cX12_runScript 139 = .ok (.aload_n 0, 1) := by decide +kernel
theorem dX12_runScript_140 : decode cX12_runScript 140 = .ok (.getfield 66, 3) := by decide +kernel
theorem dX12_runScript_143 : decode cX12_runScript 143 = .ok (.invokevirtual 354, 3) := by decide +kernel
theorem dX12_runScript_146 : decode cX12_runScript 146 = .ok (.aload_n 0, 1) := by decide +kernel
theorem dX12_runScript_147 : decode cX12_runScript 147 = .ok (.getfield 38, 3) := by decide +kernel
theorem dX12_runScript_150 : decode cX12_runScript 150 = .ok (.invokevirtual 388, 3) := by decide +kernel
theorem dX12_runScript_153 : decode cX12_runScript 153 = .ok (.iload_n 2, 1) := by decide +kernel
theorem dX12_runScript_154 : decode cX12_runScript 154 = .ok (.ireturn, 1) := by decide +kernel
theorem dX12_errorPosition_0 : decode cX12_errorPosition 0 = .ok (.aload_n 0, 1) := by decide +kernel
theorem dX12_errorPosition_1 : decode cX12_errorPosition 1 = .ok (.getfield 77, 3) := by decide +kernel
theorem dX12_errorPosition_4 : decode cX12_errorPosition 4 = .ok (.iconst (-1), 1) := by decide +kernel
theorem dX12_errorPosition_5 : decode cX12_errorPosition 5 = .ok (.if_icmp .ne 14, 3) := by decide +kernel
theorem dX12_errorPosition_8 : decode cX12_errorPosition 8 = .ok (.new 175, 3) := by decide +kernel
theorem dX12_errorPosition_11 : decode cX12_errorPosition 11 = .ok (.dup, 1) := by decide +kernel
theorem dX12_errorPosition_12 : decode cX12_errorPosition 12 = .ok (.ldc_w 391, 3) := by decide +kernel
theorem dX12_errorPosition_15 : decode cX12_errorPosition 15 = .ok (.invokespecial 179, 3) := by decide +kernel
theorem dX12_errorPosition_18 : decode cX12_errorPosition 18 = .ok (.athrow, 1) := by decide +kernel
theorem dX12_errorPosition_19 : decode cX12_errorPosition 19 = .ok (.aload_n 0, 1) := by decide +kernel
theorem dX12_errorPosition_20 : decode cX12_errorPosition 20 = .ok (.getfield 77, 3) := by decide +kernel
theorem dX12_errorPosition_23 : decode cX12_errorPosition 23 = .ok (.ireturn, 1) := by decide +kernel
theorem dX12_failedCommand_0 : decode cX12_failedCommand 0 = .ok (.aload_n 0, 1) := by decide +kernel
theorem dX12_failedCommand_1 : decode cX12_failedCommand 1 = .ok (.getfield 81, 3) := by decide +kernel
theorem dX12_failedCommand_4 : decode cX12_failedCommand 4 = .ok (.iconst (-1), 1) := by decide +kernel
theorem dX12_failedCommand_5 : decode cX12_failedCommand 5 = .ok (.if_icmp .ne 14, 3) := by decide +kernel
theorem dX12_failedCommand_8 : decode cX12_failedCommand 8 = .ok (.new 175, 3) := by decide +kernel
theorem dX12_failedCommand_11 : decode cX12_failedCommand 11 = .ok (.dup, 1) := by decide +kernel
theorem dX12_failedCommand_12 : decode cX12_failedCommand 12 = .ok (.ldc_w 393, 3) := by decide +kernel
theorem dX12_failedCommand_15 : decode cX12_failedCommand 15 = .ok (.invokespecial 179, 3) := by decide +kernel
theorem dX12_failedCommand_18 : decode cX12_failedCommand 18 = .ok (.athrow, 1) := by decide +kernel
theorem dX12_failedCommand_19 : decode cX12_failedCommand 19 = .ok (.aload_n 0, 1) := by decide +kernel
theorem dX12_failedCommand_20 : decode cX12_failedCommand 20 = .ok (.getfield 81, 3) := by decide +kernel
theorem dX12_failedCommand_23 : decode cX12_failedCommand 23 = .ok (.ireturn, 1) := by decide +kernel
theorem dX12_undo_0 : decode cX12_undo 0 = .ok (.aload_n 0, 1) := by decide +kernel
theorem dX12_undo_1 : decode cX12_undo 1 = .ok (.getfield 38, 3) := by decide +kernel
theorem dX12_undo_4 : decode cX12_undo 4 = .ok (.getfield 395, 3) := by decide +kernel
theorem dX12_undo_7 : decode cX12_undo 7 = .ok (.ifCond .ne 14, 3) := by decide +kernel
theorem dX12_undo_10 : decode cX12_undo 10 = .ok (.new 175, 3) := by decide +kernel
theorem dX12_undo_13 : decode cX12_undo 13 = .ok (.dup, 1) := by decide +kernel
theorem dX12_undo_14 : decode cX12_undo 14 = .ok (.ldc_w 398, 3) := by decide +kernel
theorem dX12_undo_17 : decode cX12_undo 17 = .ok (.invokespecial 179, 3) := by decide +kernel
theorem dX12_undo_20 : decode cX12_undo 20 = .ok (.athrow, 1) := by decide +kernel
theorem dX12_undo_21 : decode cX12_undo 21 = .ok (.aload_n 0, 1) := by decide +kernel
theorem dX12_undo_22 : decode cX12_undo 22 = .ok (.getfield 10, 3) := by decide +kernel
theorem dX12_undo_25 : decode cX12_undo 25 = .ok (.aload_n 0, 1) := by decide +kernel
theorem dX12_undo_26 : decode cX12_undo 26 = .ok (.getfield 38, 3) := by decide +kernel
theorem dX12_undo_29 : decode cX12_undo 29 = .ok (.invokevirtual 400, 3) := by decide +kernel
theorem dX12_undo_32 : decode cX12_undo 32 = .ok (.invokevirtual 384, 3) := by decide +kernel
theorem dX12_undo_35 : decode cX12_undo 35 = .ok (.aload_n 0, 1) := by decide +kernel
theorem dX12_undo_36 : decode cX12_undo 36 = .ok (.getfield 38, 3) := by decide +kernel
theorem dX12_undo_39 : decode cX12_undo 39 = .ok (.getfield 395, 3) := by decide +kernel
theorem dX12_undo_42 : decode cX12_undo 42 = .ok (.ireturn, 1) := by decide +kernel
theorem dX12_save_0 : decode cX12_save 0 = .ok (.aload_n 0, 1) := by decide +kernel
theorem dX12_save_1 : decode cX12_save 1 = .ok (.getfield 26, 3) := by decide +kernel
theorem dX12_save_4 : decode cX12_save 4 = .ok (.aload_n 0, 1) := by decide +kernel
theorem dX12_save_5 : decode cX12_save 5 = .ok (.getfield 10, 3) := by decide +kernel
theorem dX12_save_8 : decode cX12_save 8 = .ok (.invokevirtual 384, 3) := by decide +kernel
theorem dX12_save_11 : decode cX12_save 11 = .ok (.aload_n 0, 1) := by decide +kernel
theorem dX12_save_12 : decode cX12_save 12 = .ok (.iconst 1, 1) := by decide +kernel
theorem dX12_save_13 : decode cX12_save 13 = .ok (.putfield 403, 3) := by decide +kernel
theorem dX12_save_16 : decode cX12_save 16 = .ok (.aload_n 0, 1) := by decide +kernel
theorem dX12_save_17 : decode cX12_save 17 = .ok (.getfield 20, 3) := by decide +kernel
theorem dX12_save_20 : decode cX12_save 20 = .ok (.getfield 96, 3) := by decide +kernel
theorem dX12_save_23 : decode cX12_save 23 = .ok (.ireturn, 1) := by decide +kernel
theorem dX12_restore_0 : decode cX12_restore 0 = .ok (.aload_n 0, 1) := by decide +kernel
theorem dX12_restore_1 : decode cX12_restore 1 = .ok (.getfield 403, 3) := by decide +kernel
theorem dX12_restore_4 : decode cX12_restore 4 = .ok (.ifCond .ne 14, 3) := by decide +kernel
theorem dX12_restore_7 : decode cX12_restore 7 = .ok (.new 343, 3) := by decide +kernel
theorem dX12_restore_10 : decode cX12_restore 10 = .ok (.dup, 1) := by decide +kernel
theorem dX12_restore_11 : decode cX12_restore 11 = .ok (.ldc_w 407, 3) := by decide +kernel
theorem dX12_restore_14 : decode cX12_restore 14 = .ok (.invokespecial 347, 3) := by decide +kernel
theorem dX12_restore_17 : decode cX12_restore 17 = .ok (.athrow, 1) := by decide +kernel
theorem dX12_restore_18 : decode cX12_restore 18 = .ok (.aload_n 0, 1) := by decide +kernel
theorem dX12_restore_19 : decode cX12_restore 19 = .ok (.getfield 10, 3) := by decide +kernel
theorem dX12_restore_22 : decode cX12_restore 22 = .ok (.aload_n 0, 1) := by decide +kernel
theorem dX12_restore_23 : decode cX12_restore 23 = .ok (.getfield 26, 3) := by decide +kernel
theorem dX12_restore_26 : decode cX12_restore 26 = .ok (.invokevirtual 384, 3) := by decide +kernel
theorem dX12_restore_29 : decode cX12_restore 29 = .ok (.aload_n 0, 1) := by decide +kernel
theorem dX12_restore_30 : decode cX12_restore 30 = .ok (.getfield 38, 3) := by decide +kernel
theorem dX12_restore_33 : decode cX12_restore 33 = .ok (.invokevirtual 409, 3) := by decide +kernel
theorem dX12_restore_36 : decode cX12_restore 36 = .ok (.aload_n 0, 1) := by decide +kernel
theorem dX12_restore_37 : decode cX12_restore 37 = .ok (.getfield 20, 3) := by decide +kernel
theorem dX12_restore_40 : decode cX12_restore 40 = .ok (.getfield 96, 3) := by decide +kernel
theorem dX12_restore_43 : decode cX12_restore 43 = .ok (.ireturn, 1) := by decide +kernel
theorem dX12_finishChange_0 : decode cX12_finishChange 0 = .ok (.aload_n 1, 1) := by decide +kernel
theorem dX12_finishChange_1 : decode cX12_finishChange 1 = .ok (.invokestatic 412, 3) := by decide +kernel
theorem dX12_finishChange_4 : decode cX12_finishChange 4 = .ok (.aload_n 0, 1) := by decide +kernel
theorem dX12_finishChange_5 : decode cX12_finishChange 5 = .ok (.getfield 38, 3) := by decide +kernel
theorem dX12_finishChange_8 : decode cX12_finishChange 8 = .ok (.invokevirtual 388, 3) := by decide +kernel
theorem dX12_finishChange_11 : decode cX12_finishChange 11 = .ok (.return_, 1) := by decide +kernel
theorem dX12_raise_0 : decode cX12_raise 0 = .ok (.aload_n 0, 1) := by decide +kernel
theorem dX12_raise_1 : decode cX12_raise 1 = .ok (.getstatic 415, 3) := by decide +kernel
theorem dX12_raise_4 : decode cX12_raise 4 = .ok (.if_acmp .ne 14, 3) := by decide +kernel
theorem dX12_raise_7 : decode cX12_raise 7 = .ok (.new 331, 3) := by decide +kernel
theorem dX12_raise_10 : decode cX12_raise 10 = .ok (.dup, 1) := by decide +kernel
theorem dX12_raise_11 : decode cX12_raise 11 = .ok (.ldc_w 418, 3) := by decide +kernel
theorem dX12_raise_14 : decode cX12_raise 14 = .ok (.invokespecial 335, 3) := by decide +kernel
theorem dX12_raise_17 : decode cX12_raise 17 = .ok (.athrow, 1) := by decide +kernel
theorem dX12_raise_18 : decode cX12_raise 18 = .ok (.aload_n 0, 1) := by decide +kernel
theorem dX12_raise_19 : decode cX12_raise 19 = .ok (.getstatic 420, 3) := by decide +kernel
theorem dX12_raise_22 : decode cX12_raise 22 = .ok (.if_acmp .ne 14, 3) := by decide +kernel
theorem dX12_raise_25 : decode cX12_raise 25 = .ok (.new 191, 3) := by decide +kernel
theorem dX12_raise_28 : decode cX12_raise 28 = .ok (.dup, 1) := by decide +kernel
theorem dX12_raise_29 : decode cX12_raise 29 = .ok (.ldc_w 423, 3) := by decide +kernel
theorem dX12_raise_32 : decode cX12_raise 32 = .ok (.invokespecial 195, 3) := by decide +kernel
theorem dX12_raise_35 : decode cX12_raise 35 = .ok (.athrow, 1) := by decide +kernel
theorem dX12_raise_36 : decode cX12_raise 36 = .ok (.aload_n 0, 1) := by decide +kernel
theorem dX12_raise_37 : decode cX12_raise 37 = .ok (.getstatic 425, 3) := by decide +kernel
theorem dX12_raise_40 : decode cX12_raise 40 = .ok (.if_acmp .ne 14, 3) := by decide +kernel
theorem dX12_raise_43 : decode cX12_raise 43 = .ok (.new 343, 3) := by decide +kernel
theorem dX12_raise_46 : decode cX12_raise 46 = .ok (.dup, 1) := by decide +kernel
theorem dX12_raise_47 : decode cX12_raise 47 = .ok (.ldc_w 428, 3) := by decide +kernel
theorem dX12_raise_50 : decode cX12_raise 50 = .ok (.invokespecial 347, 3) := by decide +kernel
theorem dX12_raise_53 : decode cX12_raise 53 = .ok (.athrow, 1) := by decide +kernel
theorem dX12_raise_54 : decode cX12_raise 54 = .ok (.aload_n 0, 1) := by decide +kernel
theorem dX12_raise_55 : decode cX12_raise 55 = .ok (.getstatic 430, 3) := by decide +kernel
theorem dX12_raise_58 : decode cX12_raise 58 = .ok (.if_acmp .ne 14, 3) := by decide +kernel
theorem dX12_raise_61 : decode cX12_raise 61 = .ok (.new 433, 3) := by decide +kernel
theorem dX12_raise_64 : decode cX12_raise 64 = .ok (.dup, 1) := by decide +kernel
theorem dX12_raise_65 : decode cX12_raise 65 = .ok (.ldc_w 435, 3) := by decide +kernel
theorem dX12_raise_68 : decode cX12_raise 68 = .ok (.invokespecial 437, 3) := by decide +kernel
theorem dX12_raise_71 : decode cX12_raise 71 = .ok (.athrow, 1) := by decide +kernel
theorem dX12_raise_72 : decode cX12_raise 72 = .ok (.aload_n 0, 1) := by decide +kernel
theorem dX12_raise_73 : decode cX12_raise 73 = .ok (.getstatic 438, 3) := by decide +kernel
theorem dX12_raise_76 : decode cX12_raise 76 = .ok (.if_acmp .ne 14, 3) := by decide +kernel
theorem dX12_raise_79 : decode cX12_raise 79 = .ok (.new 175, 3) := by decide +kernel
theorem dX12_raise_82 : decode cX12_raise 82 = .ok (.dup, 1) := by decide +kernel
theorem dX12_raise_83 : decode cX12_raise 83 = .ok (.ldc_w 441, 3) := by decide +kernel
theorem dX12_raise_86 : decode cX12_raise 86 = .ok (.invokespecial 179, 3) := by decide +kernel
theorem dX12_raise_89 : decode cX12_raise 89 = .ok (.athrow, 1) := by decide +kernel
theorem dX12_raise_90 : decode cX12_raise 90 = .ok (.return_, 1) := by decide +kernel
theorem dX12_requirePosition_0 : decode cX12_requirePosition 0 = .ok (.aload_n 0, 1) := by decide +kernel
theorem dX12_requirePosition_1 : decode cX12_requirePosition 1 = .ok (.getfield 20, 3) := by decide +kernel
theorem dX12_requirePosition_4 : decode cX12_requirePosition 4 = .ok (.iload_n 1, 1) := by decide +kernel
theorem dX12_requirePosition_5 : decode cX12_requirePosition 5 = .ok (.invokevirtual 443, 3) := by decide +kernel
theorem dX12_requirePosition_8 : decode cX12_requirePosition 8 = .ok (.ifCond .ne 14, 3) := by decide +kernel
theorem dX12_requirePosition_11 : decode cX12_requirePosition 11 = .ok (.new 331, 3) := by decide +kernel
theorem dX12_requirePosition_14 : decode cX12_requirePosition 14 = .ok (.dup, 1) := by decide +kernel
theorem dX12_requirePosition_15 : decode cX12_requirePosition 15 = .ok (.ldc_w 446, 3) := by decide +kernel
theorem dX12_requirePosition_18 : decode cX12_requirePosition 18 = .ok (.invokespecial 335, 3) := by decide +kernel
theorem dX12_requirePosition_21 : decode cX12_requirePosition 21 = .ok (.athrow, 1) := by decide +kernel
theorem dX12_requirePosition_22 : decode cX12_requirePosition 22 = .ok (.return_, 1) := by decide +kernel
theorem dX12_requireCrossing_0 : decode cX12_requireCrossing 0 = .ok (.aload_n 0, 1) := by decide +kernel
theorem dX12_requireCrossing_1 : decode cX12_requireCrossing 1 = .ok (.getfield 20, 3) := by decide +kernel
theorem dX12_requireCrossing_4 : decode cX12_requireCrossing 4 = .ok (.iload_n 1, 1) := by decide +kernel
theorem dX12_requireCrossing_5 : decode cX12_requireCrossing 5 = .ok (.invokevirtual 172, 3) := by decide +kernel
theorem dX12_requireCrossing_8 : decode cX12_requireCrossing 8 = .ok (.ifCond .ne 14, 3) := by decide +kernel
theorem dX12_requireCrossing_11 : decode cX12_requireCrossing 11 = .ok (.new 331, 3) := by decide +kernel
theorem dX12_requireCrossing_14 : decode cX12_requireCrossing 14 = .ok (.dup, 1) := by decide +kernel
theorem dX12_requireCrossing_15 : decode cX12_requireCrossing 15 = .ok (.ldc_w 448, 3) := by decide +kernel
theorem dX12_requireCrossing_18 : decode cX12_requireCrossing 18 = .ok (.invokespecial 335, 3) := by decide +kernel
theorem dX12_requireCrossing_21 : decode cX12_requireCrossing 21 = .ok (.athrow, 1) := by decide +kernel
theorem dX12_requireCrossing_22 : decode cX12_requireCrossing 22 = .ok (.return_, 1) := by decide +kernel
theorem dX12_requirePlayer_0 : decode cX12_requirePlayer 0 = .ok (.aload_n 0, 1) := by decide +kernel
theorem dX12_requirePlayer_1 : decode cX12_requirePlayer 1 = .ok (.getfield 25, 3) := by decide +kernel
theorem dX12_requirePlayer_4 : decode cX12_requirePlayer 4 = .ok (.iload_n 1, 1) := by decide +kernel
theorem dX12_requirePlayer_5 : decode cX12_requirePlayer 5 = .ok (.invokevirtual 295, 3) := by decide +kernel
theorem dX12_requirePlayer_8 : decode cX12_requirePlayer 8 = .ok (.ifCond .ne 14, 3) := by decide +kernel
theorem dX12_requirePlayer_11 : decode cX12_requirePlayer 11 = .ok (.new 331, 3) := by decide +kernel
theorem dX12_requirePlayer_14 : decode cX12_requirePlayer 14 = .ok (.dup, 1) := by decide +kernel
theorem dX12_requirePlayer_15 : decode cX12_requirePlayer 15 = .ok (.ldc_w 450, 3) := by decide +kernel
theorem dX12_requirePlayer_18 : decode cX12_requirePlayer 18 = .ok (.invokespecial 335, 3) := by decide +kernel
theorem dX12_requirePlayer_21 : decode cX12_requirePlayer 21 = .ok (.athrow, 1) := by decide +kernel
theorem dX12_requirePlayer_22 : decode cX12_requirePlayer 22 = .ok (.return_, 1) := by decide +kernel
theorem dX12_requireExponent_0 : decode cX12_requireExponent 0 = .ok (.iload_n 0, 1) := by decide +kernel
theorem dX12_requireExponent_1 : decode cX12_requireExponent 1 = .ok (.bipush (-50), 2) := by decide +kernel
theorem dX12_requireExponent_3 : decode cX12_requireExponent 3 = .ok (.if_icmp .lt 9, 3) := by decide +kernel
theorem dX12_requireExponent_6 : decode cX12_requireExponent 6 = .ok (.iload_n 0, 1) := by decide +kernel
theorem dX12_requireExponent_7 : decode cX12_requireExponent 7 = .ok (.bipush 50, 2) := by decide +kernel
theorem dX12_requireExponent_9 : decode cX12_requireExponent 9 = .ok (.if_icmp .le 14, 3) := by decide +kernel
theorem dX12_requireExponent_12 : decode cX12_requireExponent 12 = .ok (.new 191, 3) := by decide +kernel
theorem dX12_requireExponent_15 : decode cX12_requireExponent 15 = .ok (.dup, 1) := by decide +kernel
theorem dX12_requireExponent_16 : decode cX12_requireExponent 16 = .ok (.ldc_w 452, 3) := by decide +kernel
theorem dX12_requireExponent_19 : decode cX12_requireExponent 19 = .ok (.invokespecial 195, 3) := by decide +kernel
theorem dX12_requireExponent_22 : decode cX12_requireExponent 22 = .ok (.athrow, 1) := by decide +kernel
theorem dX12_requireExponent_23 : decode cX12_requireExponent 23 = .ok (.return_, 1) := by decide +kernel
theorem dX12_requireSwitches_0 : decode cX12_requireSwitches 0 = .ok (.iload_n 0, 1) := by decide +kernel
theorem dX12_requireSwitches_1 : decode cX12_requireSwitches 1 = .ok (.iconst (-1), 1) := by decide +kernel
theorem dX12_requireSwitches_2 : decode cX12_requireSwitches 2 = .ok (.if_icmp .ne 14, 3) := by decide +kernel
theorem dX12_requireSwitches_5 : decode cX12_requireSwitches 5 = .ok (.new 175, 3) := by decide +kernel
theorem dX12_requireSwitches_8 : decode cX12_requireSwitches 8 = .ok (.dup, 1) := by decide +kernel
theorem dX12_requireSwitches_9 : decode cX12_requireSwitches 9 = .ok (.ldc_w 441, 3) := by decide +kernel
theorem dX12_requireSwitches_12 : decode cX12_requireSwitches 12 = .ok (.invokespecial 179, 3) := by decide +kernel
theorem dX12_requireSwitches_15 : decode cX12_requireSwitches 15 = .ok (.athrow, 1) := by decide +kernel
theorem dX12_requireSwitches_16 : decode cX12_requireSwitches 16 = .ok (.iload_n 0, 1) := by decide +kernel
theorem dX12_requireSwitches_17 : decode cX12_requireSwitches 17 = .ok (.ireturn, 1) := by decide +kernel
theorem dX12_isInSet_0 : decode cX12_isInSet 0 = .ok (.iload_n 1, 1) := by decide +kernel
theorem dX12_isInSet_1 : decode cX12_isInSet 1 = .ok (.iload_n 0, 1) := by decide +kernel
theorem dX12_isInSet_2 : decode cX12_isInSet 2 = .ok (.ishr, 1) := by decide +kernel
theorem dX12_isInSet_3 : decode cX12_isInSet 3 = .ok (.iconst 1, 1) := by decide +kernel
theorem dX12_isInSet_4 : decode cX12_isInSet 4 = .ok (.iand, 1) := by decide +kernel
theorem dX12_isInSet_5 : decode cX12_isInSet 5 = .ok (.iconst 1, 1) := by decide +kernel
theorem dX12_isInSet_6 : decode cX12_isInSet 6 = .ok (.if_icmp .ne 7, 3) := by decide +kernel
theorem dX12_isInSet_9 : decode cX12_isInSet 9 = .ok (.iconst 1, 1) := by decide +kernel
theorem dX12_isInSet_10 : decode cX12_isInSet 10 = .ok (.goto 4, 3) := by decide +kernel
theorem dX12_isInSet_13 : decode cX12_isInSet 13 = .ok (.iconst 0, 1) := by decide +kernel
theorem dX12_isInSet_14 : decode cX12_isInSet 14 = .ok (.ireturn, 1) := by decide +kernel
theorem dX12_valueAt_0 : decode cX12_valueAt 0 = .ok (.iload_n 1, 1) := by decide +kernel
theorem dX12_valueAt_1 : decode cX12_valueAt 1 = .ok (.bipush 50, 2) := by decide +kernel
theorem dX12_valueAt_3 : decode cX12_valueAt 3 = .ok (.iadd, 1) := by decide +kernel
theorem dX12_valueAt_4 : decode cX12_valueAt 4 = .ok (.istore_n 2, 1) := by decide +kernel
theorem dX12_valueAt_5 : decode cX12_valueAt 5 = .ok (.iload_n 2, 1) := by decide +kernel
theorem dX12_valueAt_6 : decode cX12_valueAt 6 = .ok (.ifCond .lt 9, 3) := by decide +kernel
theorem dX12_valueAt_9 : decode cX12_valueAt 9 = .ok (.iload_n 2, 1) := by decide +kernel
theorem dX12_valueAt_10 : decode cX12_valueAt 10 = .ok (.aload_n 0, 1) := by decide +kernel
theorem dX12_valueAt_11 : decode cX12_valueAt 11 = .ok (.arraylength, 1) := by decide +kernel
theorem dX12_valueAt_12 : decode cX12_valueAt 12 = .ok (.if_icmp .lt 7, 3) := by decide +kernel
theorem dX12_valueAt_15 : decode cX12_valueAt 15 = .ok (.iconst 0, 1) := by decide +kernel
theorem dX12_valueAt_16 : decode cX12_valueAt 16 = .ok (.goto 6, 3) := by decide +kernel
theorem dX12_valueAt_19 : decode cX12_valueAt 19 = .ok (.aload_n 0, 1) := by decide +kernel
theorem dX12_valueAt_20 : decode cX12_valueAt 20 = .ok (.iload_n 2, 1) := by decide +kernel
theorem dX12_valueAt_21 : decode cX12_valueAt 21 = .ok (.iaload, 1) := by decide +kernel
theorem dX12_valueAt_22 : decode cX12_valueAt 22 = .ok (.ireturn, 1) := by decide +kernel
theorem dX12_execute_0 : decode cX12_execute 0 = .ok (.aload_n 1, 1) := by decide +kernel
theorem dX12_execute_1 : decode cX12_execute 1 = .ok (.ifnonnull 7, 3) := by decide +kernel
theorem dX12_execute_4 : decode cX12_execute 4 = .ok (.getstatic 420, 3) := by decide +kernel
theorem dX12_execute_7 : decode cX12_execute 7 = .ok (.areturn, 1) := by decide +kernel
theorem dX12_execute_8 : decode cX12_execute 8 = .ok (.getstatic 454, 3) := by decide +kernel
theorem dX12_execute_11 : decode cX12_execute 11 = .ok (.aload_n 1, 1) := by decide +kernel
theorem dX12_execute_12 : decode cX12_execute 12 = .ok (.invokevirtual 459, 3) := by decide +kernel
theorem dX12_execute_15 : decode cX12_execute 15 = .ok (.iaload, 1) := by decide +kernel
theorem dX12_execute_16 : decode cX12_execute 16 = .ok (.tableswitch 252 1 12 #[64, 99, 110, 148, 162, 173, 181, 189, 200, 208, 216, 233], 64) := by decide +kernel
theorem dX12_execute_80 : decode cX12_execute 80 = .ok (.aload_n 0, 1) := by decide +kernel
theorem dX12_execute_81 : decode cX12_execute 81 = .ok (.getfield 20, 3) := by decide +kernel
theorem dX12_execute_84 : decode cX12_execute 84 = .ok (.aload_n 2, 1) := by decide +kernel
theorem dX12_execute_85 : decode cX12_execute 85 = .ok (.iconst 0, 1) := by decide +kernel
theorem dX12_execute_86 : decode cX12_execute 86 = .ok (.iaload, 1) := by decide +kernel
theorem dX12_execute_87 : decode cX12_execute 87 = .ok (.aload_n 2, 1) := by decide +kernel
theorem dX12_execute_88 : decode cX12_execute 88 = .ok (.iconst 1, 1) := by decide +kernel
theorem dX12_execute_89 : decode cX12_execute 89 = .ok (.iaload, 1) := by decide +kernel
theorem dX12_execute_90 : decode cX12_execute 90 = .ok (.iconst 1, 1) := by decide +kernel
theorem dX12_execute_91 : decode cX12_execute 91 = .ok (.if_icmp .ne 7, 3) := by decide +kernel
theorem dX12_execute_94 : decode cX12_execute 94 = .ok (.iconst 1, 1) := by decide +kernel
theorem dX12_execute_95 : decode cX12_execute 95 = .ok (.goto 4, 3) := by decide +kernel
theorem dX12_execute_98 : decode cX12_execute 98 = .ok (.iconst 0, 1) := by decide +kernel
theorem dX12_execute_99 : decode cX12_execute 99 = .ok (.aload_n 2, 1) := by decide +kernel
theorem dX12_execute_100 : decode cX12_execute 100 = .ok (.iconst 2, 1) := by decide +kernel
theorem dX12_execute_101 : decode cX12_execute 101 = .ok (.iaload, 1) := by decide +kernel
theorem dX12_execute_102 : decode cX12_execute 102 = .ok (.iconst 1, 1) := by decide +kernel
theorem dX12_execute_103 : decode cX12_execute 103 = .ok (.if_icmp .ne 7, 3) := by decide +kernel
theorem dX12_execute_106 : decode cX12_execute 106 = .ok (.iconst 1, 1) := by decide +kernel
theorem dX12_execute_107 : decode cX12_execute 107 = .ok (.goto 4, 3) := by decide +kernel
theorem dX12_execute_110 : decode cX12_execute 110 = .ok (.iconst 0, 1) := by decide +kernel
theorem dX12_execute_111 : decode cX12_execute 111 = .ok (.invokevirtual 88, 3) := by decide +kernel
theorem dX12_execute_114 : decode cX12_execute 114 = .ok (.areturn, 1) := by decide +kernel
theorem dX12_execute_115 : decode cX12_execute 115 = .ok (.aload_n 0, 1) := by decide +kernel
theorem dX12_execute_116 : decode cX12_execute 116 = .ok (.getfield 20, 3) := by decide +kernel
theorem dX12_execute_119 : decode cX12_execute 119 = .ok (.aload_n 2, 1) := by decide +kernel
theorem dX12_execute_120 : decode cX12_execute 120 = .ok (.iconst 0, 1) := by decide +kernel
theorem dX12_execute_121 : decode cX12_execute 121 = .ok (.iaload, 1) := by decide +kernel
theorem dX12_execute_122 : decode cX12_execute 122 = .ok (.invokevirtual 99, 3) := by decide +kernel
theorem dX12_execute_125 : decode cX12_execute 125 = .ok (.areturn, 1) := by decide +kernel
theorem dX12_execute_126 : decode cX12_execute 126 = .ok (.aload_n 0, 1) := by decide +kernel
theorem dX12_execute_127 : decode cX12_execute 127 = .ok (.getfield 20, 3) := by decide +kernel
theorem dX12_execute_130 : decode cX12_execute 130 = .ok (.aload_n 2, 1) := by decide +kernel
theorem dX12_execute_131 : decode cX12_execute 131 = .ok (.iconst 0, 1) := by decide +kernel
theorem dX12_execute_132 : decode cX12_execute 132 = .ok (.iaload, 1) := by decide +kernel
theorem dX12_execute_133 : decode cX12_execute 133 = .ok (.aload_n 2, 1) := by decide +kernel
theorem dX12_execute_134 : decode cX12_execute 134 = .ok (.iconst 1, 1) := by decide +kernel
theorem dX12_execute_135 : decode cX12_execute 135 = .ok (.iaload, 1) := by decide +kernel
theorem dX12_execute_136 : decode cX12_execute 136 = .ok (.aload_n 2, 1) := by decide +kernel
theorem dX12_execute_137 : decode cX12_execute 137 = .ok (.iconst 2, 1) := by decide +kernel
theorem dX12_execute_138 : decode cX12_execute 138 = .ok (.iaload, 1) := by decide +kernel
theorem dX12_execute_139 : decode cX12_execute 139 = .ok (.iconst 1, 1) := by decide +kernel
theorem dX12_execute_140 : decode cX12_execute 140 = .ok (.if_icmp .ne 7, 3) := by decide +kernel
theorem dX12_execute_143 : decode cX12_execute 143 = .ok (.iconst 1, 1) := by decide +kernel
theorem dX12_execute_144 : decode cX12_execute 144 = .ok (.goto 4, 3) := by decide +kernel
theorem dX12_execute_147 : decode cX12_execute 147 = .ok (.iconst 0, 1) := by decide +kernel
theorem dX12_execute_148 : decode cX12_execute 148 = .ok (.aload_n 2, 1) := by decide +kernel
theorem dX12_execute_149 : decode cX12_execute 149 = .ok (.iconst 3, 1) := by decide +kernel
theorem dX12_execute_150 : decode cX12_execute 150 = .ok (.iaload, 1) := by decide +kernel
theorem dX12_execute_151 : decode cX12_execute 151 = .ok (.iconst 1, 1) := by decide +kernel
theorem dX12_execute_152 : decode cX12_execute 152 = .ok (.if_icmp .ne 7, 3) := by decide +kernel
theorem dX12_execute_155 : decode cX12_execute 155 = .ok (.iconst 1, 1) := by decide +kernel
theorem dX12_execute_156 : decode cX12_execute 156 = .ok (.goto 4, 3) := by decide +kernel
theorem dX12_execute_159 : decode cX12_execute 159 = .ok (.iconst 0, 1) := by decide +kernel
theorem dX12_execute_160 : decode cX12_execute 160 = .ok (.invokevirtual 103, 3) := by decide +kernel
theorem dX12_execute_163 : decode cX12_execute 163 = .ok (.areturn, 1) := by decide +kernel
theorem dX12_execute_164 : decode cX12_execute 164 = .ok (.aload_n 0, 1) := by decide +kernel
theorem dX12_execute_165 : decode cX12_execute 165 = .ok (.getfield 20, 3) := by decide +kernel
theorem dX12_execute_168 : decode cX12_execute 168 = .ok (.aload_n 2, 1) := by decide +kernel
theorem dX12_execute_169 : decode cX12_execute 169 = .ok (.iconst 0, 1) := by decide +kernel
theorem dX12_execute_170 : decode cX12_execute 170 = .ok (.iaload, 1) := by decide +kernel
theorem dX12_execute_171 : decode cX12_execute 171 = .ok (.aload_n 2, 1) := by decide +kernel
theorem dX12_execute_172 : decode cX12_execute 172 = .ok (.iconst 1, 1) := by decide +kernel
theorem dX12_execute_173 : decode cX12_execute 173 = .ok (.iaload, 1) := by decide +kernel
theorem dX12_execute_174 : decode cX12_execute 174 = .ok (.invokevirtual 107, 3) := by decide +kernel
theorem dX12_execute_177 : decode cX12_execute 177 = .ok (.areturn, 1) := by decide +kernel
theorem dX12_execute_178 : decode cX12_execute 178 = .ok (.aload_n 0, 1) := by decide +kernel
theorem dX12_execute_179 : decode cX12_execute 179 = .ok (.getfield 20, 3) := by decide +kernel
theorem dX12_execute_182 : decode cX12_execute 182 = .ok (.aload_n 2, 1) := by decide +kernel
theorem dX12_execute_183 : decode cX12_execute 183 = .ok (.iconst 0, 1) := by decide +kernel
theorem dX12_execute_184 : decode cX12_execute 184 = .ok (.iaload, 1) := by decide +kernel
theorem dX12_execute_185 : decode cX12_execute 185 = .ok (.invokevirtual 111, 3) := by decide +kernel
theorem dX12_execute_188 : decode cX12_execute 188 = .ok (.areturn, 1) := by decide +kernel
theorem dX12_execute_189 : decode cX12_execute 189 = .ok (.aload_n 0, 1) := by decide +kernel
theorem dX12_execute_190 : decode cX12_execute 190 = .ok (.getfield 20, 3) := by decide +kernel
theorem dX12_execute_193 : decode cX12_execute 193 = .ok (.invokevirtual 118, 3) := by decide +kernel
theorem dX12_execute_196 : decode cX12_execute 196 = .ok (.areturn, 1) := by decide +kernel
theorem dX12_execute_197 : decode cX12_execute 197 = .ok (.aload_n 0, 1) := by decide +kernel
theorem dX12_execute_198 : decode cX12_execute 198 = .ok (.getfield 20, 3) := by decide +kernel
theorem dX12_execute_201 : decode cX12_execute 201 = .ok (.invokevirtual 126, 3) := by decide +kernel
theorem dX12_execute_204 : decode cX12_execute 204 = .ok (.areturn, 1) := by decide +kernel
theorem dX12_execute_205 : decode cX12_execute 205 = .ok (.aload_n 0, 1) := by decide +kernel
theorem dX12_execute_206 : decode cX12_execute 206 = .ok (.getfield 20, 3) := by decide +kernel
theorem dX12_execute_209 : decode cX12_execute 209 = .ok (.aload_n 2, 1) := by decide +kernel
theorem dX12_execute_210 : decode cX12_execute 210 = .ok (.iconst 0, 1) := by decide +kernel
theorem dX12_execute_211 : decode cX12_execute 211 = .ok (.iaload, 1) := by decide +kernel
theorem dX12_execute_212 : decode cX12_execute 212 = .ok (.invokevirtual 133, 3) := by decide +kernel
theorem dX12_execute_215 : decode cX12_execute 215 = .ok (.areturn, 1) := by decide +kernel
theorem dX12_execute_216 : decode cX12_execute 216 = .ok (.aload_n 0, 1) := by decide +kernel
theorem dX12_execute_217 : decode cX12_execute 217 = .ok (.getfield 20, 3) := by decide +kernel
theorem dX12_execute_220 : decode cX12_execute 220 = .ok (.invokevirtual 136, 3) := by decide +kernel
theorem dX12_execute_223 : decode cX12_execute 223 = .ok (.areturn, 1) := by decide +kernel
theorem dX12_execute_224 : decode cX12_execute 224 = .ok (.aload_n 0, 1) := by decide +kernel
theorem dX12_execute_225 : decode cX12_execute 225 = .ok (.getfield 25, 3) := by decide +kernel
theorem dX12_execute_228 : decode cX12_execute 228 = .ok (.invokevirtual 259, 3) := by decide +kernel
theorem dX12_execute_231 : decode cX12_execute 231 = .ok (.areturn, 1) := by decide +kernel
theorem dX12_execute_232 : decode cX12_execute 232 = .ok (.aload_n 0, 1) := by decide +kernel
theorem dX12_execute_233 : decode cX12_execute 233 = .ok (.getfield 25, 3) := by decide +kernel
theorem dX12_execute_236 : decode cX12_execute 236 = .ok (.aload_n 2, 1) := by decide +kernel
theorem dX12_execute_237 : decode cX12_execute 237 = .ok (.iconst 0, 1) := by decide +kernel
theorem dX12_execute_238 : decode cX12_execute 238 = .ok (.iaload, 1) := by decide +kernel
theorem dX12_execute_239 : decode cX12_execute 239 = .ok (.aload_n 2, 1) := by decide +kernel
theorem dX12_execute_240 : decode cX12_execute 240 = .ok (.iconst 1, 1) := by decide +kernel
theorem dX12_execute_241 : decode cX12_execute 241 = .ok (.iaload, 1) := by decide +kernel
theorem dX12_execute_242 : decode cX12_execute 242 = .ok (.aload_n 2, 1) := by decide +kernel
theorem dX12_execute_243 : decode cX12_execute 243 = .ok (.iconst 2, 1) := by decide +kernel
theorem dX12_execute_244 : decode cX12_execute 244 = .ok (.iaload, 1) := by decide +kernel
theorem dX12_execute_245 : decode cX12_execute 245 = .ok (.invokevirtual 265, 3) := by decide +kernel
theorem dX12_execute_248 : decode cX12_execute 248 = .ok (.areturn, 1) := by decide +kernel
theorem dX12_execute_249 : decode cX12_execute 249 = .ok (.aload_n 0, 1) := by decide +kernel
theorem dX12_execute_250 : decode cX12_execute 250 = .ok (.getfield 25, 3) := by decide +kernel
theorem dX12_execute_253 : decode cX12_execute 253 = .ok (.aload_n 0, 1) := by decide +kernel
theorem dX12_execute_254 : decode cX12_execute 254 = .ok (.getfield 59, 3) := by decide +kernel
theorem dX12_execute_257 : decode cX12_execute 257 = .ok (.aload_n 0, 1) := by decide +kernel
theorem dX12_execute_258 : decode cX12_execute 258 = .ok (.getfield 20, 3) := by decide +kernel
theorem dX12_execute_261 : decode cX12_execute 261 = .ok (.invokevirtual 244, 3) := by decide +kernel
theorem dX12_execute_264 : decode cX12_execute 264 = .ok (.invokevirtual 275, 3) := by decide +kernel
theorem dX12_execute_267 : decode cX12_execute 267 = .ok (.areturn, 1) := by decide +kernel
theorem dX12_execute_268 : decode cX12_execute 268 = .ok (.getstatic 420, 3) := by decide +kernel
theorem dX12_execute_271 : decode cX12_execute 271 = .ok (.areturn, 1) := by decide +kernel
theorem dJx00060_init_a7421_0 : decode cJx00060_init_a7421 0 = .ok (.aload_n 0, 1) := by decide +kernel
theorem dJx00060_init_a7421_1 : decode cJx00060_init_a7421 1 = .ok (.aload_n 1, 1) := by decide +kernel
theorem dJx00060_init_a7421_2 : decode cJx00060_init_a7421 2 = .ok (.invokespecial 7, 3) := by decide +kernel
theorem dJx00060_init_a7421_5 : decode cJx00060_init_a7421 5 = .ok (.return_, 1) := by decide +kernel
theorem dJx29ce0_ordinal_8abf5_0 : decode cJx29ce0_ordinal_8abf5 0 = .ok (.aload_n 0, 1) := by decide +kernel
theorem dJx29ce0_ordinal_8abf5_1 : decode cJx29ce0_ordinal_8abf5 1 = .ok (.getfield 7, 3) := by decide +kernel
theorem dJx29ce0_ordinal_8abf5_4 : decode cJx29ce0_ordinal_8abf5 4 = .ok (.ireturn, 1) := by decide +kernel
theorem dJ6_bitCount_0f7a4_0 : decode cJ6_bitCount_0f7a4 0 = .ok (.iload_n 0, 1) := by decide +kernel
theorem dJ6_bitCount_0f7a4_1 : decode cJ6_bitCount_0f7a4 1 = .ok (.iload_n 0, 1) := by decide +kernel
theorem dJ6_bitCount_0f7a4_2 : decode cJ6_bitCount_0f7a4 2 = .ok (.iconst 1, 1) := by decide +kernel
theorem dJ6_bitCount_0f7a4_3 : decode cJ6_bitCount_0f7a4 3 = .ok (.iushr, 1) := by decide +kernel
theorem dJ6_bitCount_0f7a4_4 : decode cJ6_bitCount_0f7a4 4 = .ok (.ldc_w 265, 3) := by decide +kernel
theorem dJ6_bitCount_0f7a4_7 : decode cJ6_bitCount_0f7a4 7 = .ok (.iand, 1) := by decide +kernel
theorem dJ6_bitCount_0f7a4_8 : decode cJ6_bitCount_0f7a4 8 = .ok (.isub, 1) := by decide +kernel
theorem dJ6_bitCount_0f7a4_9 : decode cJ6_bitCount_0f7a4 9 = .ok (.istore_n 0, 1) := by decide +kernel
theorem dJ6_bitCount_0f7a4_10 : decode cJ6_bitCount_0f7a4 10 = .ok (.iload_n 0, 1) := by decide +kernel
theorem dJ6_bitCount_0f7a4_11 : decode cJ6_bitCount_0f7a4 11 = .ok (.ldc_w 266, 3) := by decide +kernel
theorem dJ6_bitCount_0f7a4_14 : decode cJ6_bitCount_0f7a4 14 = .ok (.iand, 1) := by decide +kernel
theorem dJ6_bitCount_0f7a4_15 : decode cJ6_bitCount_0f7a4 15 = .ok (.iload_n 0, 1) := by decide +kernel
theorem dJ6_bitCount_0f7a4_16 : decode cJ6_bitCount_0f7a4 16 = .ok (.iconst 2, 1) := by decide +kernel
theorem dJ6_bitCount_0f7a4_17 : decode cJ6_bitCount_0f7a4 17 = .ok (.iushr, 1) := by decide +kernel
theorem dJ6_bitCount_0f7a4_18 : decode cJ6_bitCount_0f7a4 18 = .ok (.ldc_w 266, 3) := by decide +kernel
theorem dJ6_bitCount_0f7a4_21 : decode cJ6_bitCount_0f7a4 21 = .ok (.iand, 1) := by decide +kernel
theorem dJ6_bitCount_0f7a4_22 : decode cJ6_bitCount_0f7a4 22 = .ok (.iadd, 1) := by decide +kernel
theorem dJ6_bitCount_0f7a4_23 : decode cJ6_bitCount_0f7a4 23 = .ok (.istore_n 0, 1) := by decide +kernel
theorem dJ6_bitCount_0f7a4_24 : decode cJ6_bitCount_0f7a4 24 = .ok (.iload_n 0, 1) := by decide +kernel
theorem dJ6_bitCount_0f7a4_25 : decode cJ6_bitCount_0f7a4 25 = .ok (.iload_n 0, 1) := by decide +kernel
theorem dJ6_bitCount_0f7a4_26 : decode cJ6_bitCount_0f7a4 26 = .ok (.iconst 4, 1) := by decide +kernel
theorem dJ6_bitCount_0f7a4_27 : decode cJ6_bitCount_0f7a4 27 = .ok (.iushr, 1) := by decide +kernel
theorem dJ6_bitCount_0f7a4_28 : decode cJ6_bitCount_0f7a4 28 = .ok (.iadd, 1) := by decide +kernel
theorem dJ6_bitCount_0f7a4_29 : decode cJ6_bitCount_0f7a4 29 = .ok (.ldc_w 267, 3) := by decide +kernel
theorem dJ6_bitCount_0f7a4_32 : decode cJ6_bitCount_0f7a4 32 = .ok (.iand, 1) := by decide +kernel
theorem dJ6_bitCount_0f7a4_33 : decode cJ6_bitCount_0f7a4 33 = .ok (.istore_n 0, 1) := by decide +kernel
theorem dJ6_bitCount_0f7a4_34 : decode cJ6_bitCount_0f7a4 34 = .ok (.iload_n 0, 1) := by decide +kernel
theorem dJ6_bitCount_0f7a4_35 : decode cJ6_bitCount_0f7a4 35 = .ok (.iload_n 0, 1) := by decide +kernel
theorem dJ6_bitCount_0f7a4_36 : decode cJ6_bitCount_0f7a4 36 = .ok (.bipush 8, 2) := by decide +kernel
theorem dJ6_bitCount_0f7a4_38 : decode cJ6_bitCount_0f7a4 38 = .ok (.iushr, 1) := by decide +kernel
theorem dJ6_bitCount_0f7a4_39 : decode cJ6_bitCount_0f7a4 39 = .ok (.iadd, 1) := by decide +kernel
theorem dJ6_bitCount_0f7a4_40 : decode cJ6_bitCount_0f7a4 40 = .ok (.istore_n 0, 1) := by decide +kernel
theorem dJ6_bitCount_0f7a4_41 : decode cJ6_bitCount_0f7a4 41 = .ok (.iload_n 0, 1) := by decide +kernel
theorem dJ6_bitCount_0f7a4_42 : decode cJ6_bitCount_0f7a4 42 = .ok (.iload_n 0, 1) := by decide +kernel
theorem dJ6_bitCount_0f7a4_43 : decode cJ6_bitCount_0f7a4 43 = .ok (.bipush 16, 2) := by decide +kernel
theorem dJ6_bitCount_0f7a4_45 : decode cJ6_bitCount_0f7a4 45 = .ok (.iushr, 1) := by decide +kernel
theorem dJ6_bitCount_0f7a4_46 : decode cJ6_bitCount_0f7a4 46 = .ok (.iadd, 1) := by decide +kernel
theorem dJ6_bitCount_0f7a4_47 : decode cJ6_bitCount_0f7a4 47 = .ok (.istore_n 0, 1) := by decide +kernel
theorem dJ6_bitCount_0f7a4_48 : decode cJ6_bitCount_0f7a4 48 = .ok (.iload_n 0, 1) := by decide +kernel
theorem dJ6_bitCount_0f7a4_49 : decode cJ6_bitCount_0f7a4 49 = .ok (.bipush 63, 2) := by decide +kernel
theorem dJ6_bitCount_0f7a4_51 : decode cJ6_bitCount_0f7a4 51 = .ok (.iand, 1) := by decide +kernel
theorem dJ6_bitCount_0f7a4_52 : decode cJ6_bitCount_0f7a4 52 = .ok (.ireturn, 1) := by decide +kernel
theorem dJ9_floorMod_7cf53_0 : decode cJ9_floorMod_7cf53 0 = .ok (.iload_n 0, 1) := by decide +kernel
theorem dJ9_floorMod_7cf53_1 : decode cJ9_floorMod_7cf53 1 = .ok (.iload_n 1, 1) := by decide +kernel
theorem dJ9_floorMod_7cf53_2 : decode cJ9_floorMod_7cf53 2 = .ok (.irem, 1) := by decide +kernel
theorem dJ9_floorMod_7cf53_3 : decode cJ9_floorMod_7cf53 3 = .ok (.istore_n 2, 1) := by decide +kernel
theorem dJ9_floorMod_7cf53_4 : decode cJ9_floorMod_7cf53 4 = .ok (.iload_n 0, 1) := by decide +kernel
theorem dJ9_floorMod_7cf53_5 : decode cJ9_floorMod_7cf53 5 = .ok (.iload_n 1, 1) := by decide +kernel
theorem dJ9_floorMod_7cf53_6 : decode cJ9_floorMod_7cf53 6 = .ok (.ixor, 1) := by decide +kernel
theorem dJ9_floorMod_7cf53_7 : decode cJ9_floorMod_7cf53 7 = .ok (.ifCond .ge 11, 3) := by decide +kernel
theorem dJ9_floorMod_7cf53_10 : decode cJ9_floorMod_7cf53 10 = .ok (.iload_n 2, 1) := by decide +kernel
theorem dJ9_floorMod_7cf53_11 : decode cJ9_floorMod_7cf53 11 = .ok (.ifCond .eq 7, 3) := by decide +kernel
theorem dJ9_floorMod_7cf53_14 : decode cJ9_floorMod_7cf53 14 = .ok (.iload_n 2, 1) := by decide +kernel
theorem dJ9_floorMod_7cf53_15 : decode cJ9_floorMod_7cf53 15 = .ok (.iload_n 1, 1) := by decide +kernel
theorem dJ9_floorMod_7cf53_16 : decode cJ9_floorMod_7cf53 16 = .ok (.iadd, 1) := by decide +kernel
theorem dJ9_floorMod_7cf53_17 : decode cJ9_floorMod_7cf53 17 = .ok (.ireturn, 1) := by decide +kernel
theorem dJ9_floorMod_7cf53_18 : decode cJ9_floorMod_7cf53 18 = .ok (.iload_n 2, 1) := by decide +kernel
theorem dJ9_floorMod_7cf53_19 : decode cJ9_floorMod_7cf53 19 = .ok (.ireturn, 1) := by decide +kernel
theorem dJ9_abs_0f7a4_0 : decode cJ9_abs_0f7a4 0 = .ok (.iload_n 0, 1) := by decide +kernel
theorem dJ9_abs_0f7a4_1 : decode cJ9_abs_0f7a4 1 = .ok (.ifCond .ge 8, 3) := by decide +kernel
theorem dJ9_abs_0f7a4_4 : decode cJ9_abs_0f7a4 4 = .ok (.iload_n 0, 1) := by decide +kernel
theorem dJ9_abs_0f7a4_5 : decode cJ9_abs_0f7a4 5 = .ok (.ineg, 1) := by decide +kernel
theorem dJ9_abs_0f7a4_6 : decode cJ9_abs_0f7a4 6 = .ok (.goto 4, 3) := by decide +kernel
theorem dJ9_abs_0f7a4_9 : decode cJ9_abs_0f7a4 9 = .ok (.iload_n 0, 1) := by decide +kernel
theorem dJ9_abs_0f7a4_10 : decode cJ9_abs_0f7a4 10 = .ok (.ireturn, 1) := by decide +kernel
theorem dJ9_max_7cf53_0 : decode cJ9_max_7cf53 0 = .ok (.iload_n 0, 1) := by decide +kernel
theorem dJ9_max_7cf53_1 : decode cJ9_max_7cf53 1 = .ok (.iload_n 1, 1) := by decide +kernel
theorem dJ9_max_7cf53_2 : decode cJ9_max_7cf53 2 = .ok (.if_icmp .lt 7, 3) := by decide +kernel
theorem dJ9_max_7cf53_5 : decode cJ9_max_7cf53 5 = .ok (.iload_n 0, 1) := by decide +kernel
theorem dJ9_max_7cf53_6 : decode cJ9_max_7cf53 6 = .ok (.goto 4, 3) := by decide +kernel
theorem dJ9_max_7cf53_9 : decode cJ9_max_7cf53 9 = .ok (.iload_n 1, 1) := by decide +kernel
theorem dJ9_max_7cf53_10 : decode cJ9_max_7cf53 10 = .ok (.ireturn, 1) := by decide +kernel
theorem dJ9_min_7cf53_0 : decode cJ9_min_7cf53 0 = .ok (.iload_n 0, 1) := by decide +kernel
theorem dJ9_min_7cf53_1 : decode cJ9_min_7cf53 1 = .ok (.iload_n 1, 1) := by decide +kernel
theorem dJ9_min_7cf53_2 : decode cJ9_min_7cf53 2 = .ok (.if_icmp .gt 7, 3) := by decide +kernel
theorem dJ9_min_7cf53_5 : decode cJ9_min_7cf53 5 = .ok (.iload_n 0, 1) := by decide +kernel
theorem dJ9_min_7cf53_6 : decode cJ9_min_7cf53 6 = .ok (.goto 4, 3) := by decide +kernel
theorem dJ9_min_7cf53_9 : decode cJ9_min_7cf53 9 = .ok (.iload_n 1, 1) := by decide +kernel
theorem dJ9_min_7cf53_10 : decode cJ9_min_7cf53 10 = .ok (.ireturn, 1) := by decide +kernel
theorem dJ0_length_8abf5_0 : decode cJ0_length_8abf5 0 = .ok (.aload_n 0, 1) := by decide +kernel
theorem dJ0_length_8abf5_1 : decode cJ0_length_8abf5 1 = .ok (.getfield 9, 3) := by decide +kernel
theorem dJ0_length_8abf5_4 : decode cJ0_length_8abf5 4 = .ok (.arraylength, 1) := by decide +kernel
theorem dJ0_length_8abf5_5 : decode cJ0_length_8abf5 5 = .ok (.aload_n 0, 1) := by decide +kernel
theorem dJ0_length_8abf5_6 : decode cJ0_length_8abf5 6 = .ok (.invokevirtual 335, 3) := by decide +kernel
theorem dJ0_length_8abf5_9 : decode cJ0_length_8abf5 9 = .ok (.ishr, 1) := by decide +kernel
theorem dJ0_length_8abf5_10 : decode cJ0_length_8abf5 10 = .ok (.ireturn, 1) := by decide +kernel
theorem dJ0_charAt_5068e_0 : decode cJ0_charAt_5068e 0 = .ok (.aload_n 0, 1) := by decide +kernel
theorem dJ0_charAt_5068e_1 : decode cJ0_charAt_5068e 1 = .ok (.invokevirtual 492, 3) := by decide +kernel
theorem dJ0_charAt_5068e_4 : decode cJ0_charAt_5068e 4 = .ok (.ifCond .eq 12, 3) := by decide +kernel
theorem dJ0_charAt_5068e_7 : decode cJ0_charAt_5068e 7 = .ok (.aload_n 0, 1) := by decide +kernel
theorem dJ0_charAt_5068e_8 : decode cJ0_charAt_5068e 8 = .ok (.getfield 9, 3) := by decide +kernel
theorem dJ0_charAt_5068e_11 : decode cJ0_charAt_5068e 11 = .ok (.iload_n 1, 1) := by decide +kernel
theorem dJ0_charAt_5068e_12 : decode cJ0_charAt_5068e 12 = .ok (.invokestatic 495, 3) := by decide +kernel
theorem dJ0_charAt_5068e_15 : decode cJ0_charAt_5068e 15 = .ok (.ireturn, 1) := by decide +kernel
theorem dJ0_charAt_5068e_16 : decode cJ0_charAt_5068e 16 = .ok (.aload_n 0, 1) := by decide +kernel
theorem dJ0_charAt_5068e_17 : decode cJ0_charAt_5068e 17 = .ok (.getfield 9, 3) := by decide +kernel
theorem dJ0_charAt_5068e_20 : decode cJ0_charAt_5068e 20 = .ok (.iload_n 1, 1) := by decide +kernel
theorem dJ0_charAt_5068e_21 : decode cJ0_charAt_5068e 21 = .ok (.invokestatic 498, 3) := by decide +kernel
theorem dJ0_charAt_5068e_24 : decode cJ0_charAt_5068e 24 = .ok (.ireturn, 1) := by decide +kernel
theorem dJ0_coder_7d493_0 : decode cJ0_coder_7d493 0 = .ok (.getstatic 38, 3) := by decide +kernel
theorem dJ0_coder_7d493_3 : decode cJ0_coder_7d493 3 = .ok (.ifCond .eq 10, 3) := by decide +kernel
theorem dJ0_coder_7d493_6 : decode cJ0_coder_7d493 6 = .ok (.aload_n 0, 1) := by decide +kernel
theorem dJ0_coder_7d493_7 : decode cJ0_coder_7d493 7 = .ok (.getfield 15, 3) := by decide +kernel
theorem dJ0_coder_7d493_10 : decode cJ0_coder_7d493 10 = .ok (.goto 4, 3) := by decide +kernel
theorem dJ0_coder_7d493_13 : decode cJ0_coder_7d493 13 = .ok (.iconst 1, 1) := by decide +kernel
theorem dJ0_coder_7d493_14 : decode cJ0_coder_7d493 14 = .ok (.ireturn, 1) := by decide +kernel
theorem dJ0_isLatin1_aae02_0 : decode cJ0_isLatin1_aae02 0 = .ok (.getstatic 38, 3) := by decide +kernel
theorem dJ0_isLatin1_aae02_3 : decode cJ0_isLatin1_aae02 3 = .ok (.ifCond .eq 14, 3) := by decide +kernel
theorem dJ0_isLatin1_aae02_6 : decode cJ0_isLatin1_aae02 6 = .ok (.aload_n 0, 1) := by decide +kernel
theorem dJ0_isLatin1_aae02_7 : decode cJ0_isLatin1_aae02 7 = .ok (.getfield 15, 3) := by decide +kernel
theorem dJ0_isLatin1_aae02_10 : decode cJ0_isLatin1_aae02 10 = .ok (.ifCond .ne 7, 3) := by decide +kernel
theorem dJ0_isLatin1_aae02_13 : decode cJ0_isLatin1_aae02 13 = .ok (.iconst 1, 1) := by decide +kernel
theorem dJ0_isLatin1_aae02_14 : decode cJ0_isLatin1_aae02 14 = .ok (.goto 4, 3) := by decide +kernel
theorem dJ0_isLatin1_aae02_17 : decode cJ0_isLatin1_aae02 17 = .ok (.iconst 0, 1) := by decide +kernel
theorem dJ0_isLatin1_aae02_18 : decode cJ0_isLatin1_aae02 18 = .ok (.ireturn, 1) := by decide +kernel
theorem dJ0_checkIndex_df160_0 : decode cJ0_checkIndex_df160 0 = .ok (.iload_n 0, 1) := by decide +kernel
theorem dJ0_checkIndex_df160_1 : decode cJ0_checkIndex_df160 1 = .ok (.iload_n 1, 1) := by decide +kernel
theorem dJ0_checkIndex_df160_2 : decode cJ0_checkIndex_df160 2 = .ok (.getstatic 1053, 3) := by decide +kernel
theorem dJ0_checkIndex_df160_5 : decode cJ0_checkIndex_df160 5 = .ok (.invokestatic 1059, 3) := by decide +kernel
theorem dJ0_checkIndex_df160_8 : decode cJ0_checkIndex_df160 8 = .ok (.pop, 1) := by decide +kernel
theorem dJ0_checkIndex_df160_9 : decode cJ0_checkIndex_df160 9 = .ok (.return_, 1) := by decide +kernel
theorem dJ1_charAt_3b067_0 : decode cJ1_charAt_3b067 0 = .ok (.iload_n 1, 1) := by decide +kernel
theorem dJ1_charAt_3b067_1 : decode cJ1_charAt_3b067 1 = .ok (.aload_n 0, 1) := by decide +kernel
theorem dJ1_charAt_3b067_2 : decode cJ1_charAt_3b067 2 = .ok (.arraylength, 1) := by decide +kernel
theorem dJ1_charAt_3b067_3 : decode cJ1_charAt_3b067 3 = .ok (.invokestatic 9, 3) := by decide +kernel
theorem dJ1_charAt_3b067_6 : decode cJ1_charAt_3b067 6 = .ok (.aload_n 0, 1) := by decide +kernel
theorem dJ1_charAt_3b067_7 : decode cJ1_charAt_3b067 7 = .ok (.iload_n 1, 1) := by decide +kernel
theorem dJ1_charAt_3b067_8 : decode cJ1_charAt_3b067 8 = .ok (.baload, 1) := by decide +kernel
theorem dJ1_charAt_3b067_9 : decode cJ1_charAt_3b067 9 = .ok (.sipush 255, 3) := by decide +kernel
theorem dJ1_charAt_3b067_12 : decode cJ1_charAt_3b067 12 = .ok (.iand, 1) := by decide +kernel
theorem dJ1_charAt_3b067_13 : decode cJ1_charAt_3b067 13 = .ok (.i2c, 1) := by decide +kernel
theorem dJ1_charAt_3b067_14 : decode cJ1_charAt_3b067 14 = .ok (.ireturn, 1) := by decide +kernel
theorem dJ2_getChar_3b067_0 : decode cJ2_getChar_3b067 0 = .ok (.getstatic 44, 3) := by decide +kernel
theorem dJ2_getChar_3b067_3 : decode cJ2_getChar_3b067 3 = .ok (.ifCond .ne 25, 3) := by decide +kernel
theorem dJ2_getChar_3b067_6 : decode cJ2_getChar_3b067 6 = .ok (.iload_n 1, 1) := by decide +kernel
theorem dJ2_getChar_3b067_7 : decode cJ2_getChar_3b067 7 = .ok (.ifCond .lt 11, 3) := by decide +kernel
theorem dJ2_getChar_3b067_10 : decode cJ2_getChar_3b067 10 = .ok (.iload_n 1, 1) := by decide +kernel
theorem dJ2_getChar_3b067_11 : decode cJ2_getChar_3b067 11 = .ok (.aload_n 0, 1) := by decide +kernel
theorem dJ2_getChar_3b067_12 : decode cJ2_getChar_3b067 12 = .ok (.invokestatic 48, 3) := by decide +kernel
theorem dJ2_getChar_3b067_15 : decode cJ2_getChar_3b067 15 = .ok (.if_icmp .lt 13, 3) := by decide +kernel
theorem dJ2_getChar_3b067_18 : decode cJ2_getChar_3b067 18 = .ok (.new 52, 3) := by decide +kernel
theorem dJ2_getChar_3b067_21 : decode cJ2_getChar_3b067 21 = .ok (.dup, 1) := by decide +kernel
theorem dJ2_getChar_3b067_22 : decode cJ2_getChar_3b067 22 = .ok (.ldc 54, 2) := by decide +kernel
theorem dJ2_getChar_3b067_24 : decode cJ2_getChar_3b067 24 = .ok (.invokespecial 56, 3) := by decide +kernel
theorem dJ2_getChar_3b067_27 : decode cJ2_getChar_3b067 27 = .ok (.athrow, 1) := by decide +kernel
theorem dJ2_getChar_3b067_28 : decode cJ2_getChar_3b067 28 = .ok (.iload_n 1, 1) := by decide +kernel
theorem dJ2_getChar_3b067_29 : decode cJ2_getChar_3b067 29 = .ok (.iconst 1, 1) := by decide +kernel
theorem dJ2_getChar_3b067_30 : decode cJ2_getChar_3b067 30 = .ok (.ishl, 1) := by decide +kernel
theorem dJ2_getChar_3b067_31 : decode cJ2_getChar_3b067 31 = .ok (.istore_n 1, 1) := by decide +kernel
theorem dJ2_getChar_3b067_32 : decode cJ2_getChar_3b067 32 = .ok (.aload_n 0, 1) := by decide +kernel
theorem dJ2_getChar_3b067_33 : decode cJ2_getChar_3b067 33 = .ok (.iload_n 1, 1) := by decide +kernel
theorem dJ2_getChar_3b067_34 : decode cJ2_getChar_3b067 34 = .ok (.iinc 1 1, 3) := by decide +kernel
theorem dJ2_getChar_3b067_37 : decode cJ2_getChar_3b067 37 = .ok (.baload, 1) := by decide +kernel
theorem dJ2_getChar_3b067_38 : decode cJ2_getChar_3b067 38 = .ok (.sipush 255, 3) := by decide +kernel
theorem dJ2_getChar_3b067_41 : decode cJ2_getChar_3b067 41 = .ok (.iand, 1) := by decide +kernel
theorem dJ2_getChar_3b067_42 : decode cJ2_getChar_3b067 42 = .ok (.getstatic 59, 3) := by decide +kernel
theorem dJ2_getChar_3b067_45 : decode cJ2_getChar_3b067 45 = .ok (.ishl, 1) := by decide +kernel
theorem dJ2_getChar_3b067_46 : decode cJ2_getChar_3b067 46 = .ok (.aload_n 0, 1) := by decide +kernel
theorem dJ2_getChar_3b067_47 : decode cJ2_getChar_3b067 47 = .ok (.iload_n 1, 1) := by decide +kernel
theorem dJ2_getChar_3b067_48 : decode cJ2_getChar_3b067 48 = .ok (.baload, 1) := by decide +kernel
theorem dJ2_getChar_3b067_49 : decode cJ2_getChar_3b067 49 = .ok (.sipush 255, 3) := by decide +kernel
theorem dJ2_getChar_3b067_52 : decode cJ2_getChar_3b067 52 = .ok (.iand, 1) := by decide +kernel
theorem dJ2_getChar_3b067_53 : decode cJ2_getChar_3b067 53 = .ok (.getstatic 63, 3) := by decide +kernel
theorem dJ2_getChar_3b067_56 : decode cJ2_getChar_3b067 56 = .ok (.ishl, 1) := by decide +kernel
theorem dJ2_getChar_3b067_57 : decode cJ2_getChar_3b067 57 = .ok (.ior, 1) := by decide +kernel
theorem dJ2_getChar_3b067_58 : decode cJ2_getChar_3b067 58 = .ok (.i2c, 1) := by decide +kernel
theorem dJ2_getChar_3b067_59 : decode cJ2_getChar_3b067 59 = .ok (.ireturn, 1) := by decide +kernel
theorem dJ2_length_9d52b_0 : decode cJ2_length_9d52b 0 = .ok (.aload_n 0, 1) := by decide +kernel
theorem dJ2_length_9d52b_1 : decode cJ2_length_9d52b 1 = .ok (.arraylength, 1) := by decide +kernel
theorem dJ2_length_9d52b_2 : decode cJ2_length_9d52b 2 = .ok (.iconst 1, 1) := by decide +kernel
theorem dJ2_length_9d52b_3 : decode cJ2_length_9d52b 3 = .ok (.ishr, 1) := by decide +kernel
theorem dJ2_length_9d52b_4 : decode cJ2_length_9d52b 4 = .ok (.ireturn, 1) := by decide +kernel
theorem dJ2_charAt_3b067_0 : decode cJ2_charAt_3b067 0 = .ok (.iload_n 1, 1) := by decide +kernel
theorem dJ2_charAt_3b067_1 : decode cJ2_charAt_3b067 1 = .ok (.aload_n 0, 1) := by decide +kernel
theorem dJ2_charAt_3b067_2 : decode cJ2_charAt_3b067 2 = .ok (.invokestatic 67, 3) := by decide +kernel
theorem dJ2_charAt_3b067_5 : decode cJ2_charAt_3b067 5 = .ok (.aload_n 0, 1) := by decide +kernel
theorem dJ2_charAt_3b067_6 : decode cJ2_charAt_3b067 6 = .ok (.iload_n 1, 1) := by decide +kernel
theorem dJ2_charAt_3b067_7 : decode cJ2_charAt_3b067 7 = .ok (.invokestatic 71, 3) := by decide +kernel
theorem dJ2_charAt_3b067_10 : decode cJ2_charAt_3b067 10 = .ok (.ireturn, 1) := by decide +kernel
theorem dJ2_checkIndex_2214a_0 : decode cJ2_checkIndex_2214a 0 = .ok (.iload_n 0, 1) := by decide +kernel
theorem dJ2_checkIndex_2214a_1 : decode cJ2_checkIndex_2214a 1 = .ok (.aload_n 1, 1) := by decide +kernel
theorem dJ2_checkIndex_2214a_2 : decode cJ2_checkIndex_2214a 2 = .ok (.invokestatic 48, 3) := by decide +kernel
theorem dJ2_checkIndex_2214a_5 : decode cJ2_checkIndex_2214a 5 = .ok (.invokestatic 414, 3) := by decide +kernel
theorem dJ2_checkIndex_2214a_8 : decode cJ2_checkIndex_2214a 8 = .ok (.return_, 1) := by decide +kernel
theorem dJ7_fill_53178_0 : decode cJ7_fill_53178 0 = .ok (.iconst 0, 1) := by decide +kernel
theorem dJ7_fill_53178_1 : decode cJ7_fill_53178 1 = .ok (.istore_n 2, 1) := by decide +kernel
theorem dJ7_fill_53178_2 : decode cJ7_fill_53178 2 = .ok (.aload_n 0, 1) := by decide +kernel
theorem dJ7_fill_53178_3 : decode cJ7_fill_53178 3 = .ok (.arraylength, 1) := by decide +kernel
theorem dJ7_fill_53178_4 : decode cJ7_fill_53178 4 = .ok (.istore_n 3, 1) := by decide +kernel
theorem dJ7_fill_53178_5 : decode cJ7_fill_53178 5 = .ok (.iload_n 2, 1) := by decide +kernel
theorem dJ7_fill_53178_6 : decode cJ7_fill_53178 6 = .ok (.iload_n 3, 1) := by decide +kernel
theorem dJ7_fill_53178_7 : decode cJ7_fill_53178 7 = .ok (.if_icmp .ge 13, 3) := by decide +kernel
theorem dJ7_fill_53178_10 : decode cJ7_fill_53178 10 = .ok (.aload_n 0, 1) := by decide +kernel
theorem dJ7_fill_53178_11 : decode cJ7_fill_53178 11 = .ok (.iload_n 2, 1) := by decide +kernel
theorem dJ7_fill_53178_12 : decode cJ7_fill_53178 12 = .ok (.iload_n 1, 1) := by decide +kernel
theorem dJ7_fill_53178_13 : decode cJ7_fill_53178 13 = .ok (.iastore, 1) := by decide +kernel
theorem dJ7_fill_53178_14 : decode cJ7_fill_53178 14 = .ok (.iinc 2 1, 3) := by decide +kernel
theorem dJ7_fill_53178_17 : decode cJ7_fill_53178 17 = .ok (.goto (-12), 3) := by decide +kernel
theorem dJ7_fill_53178_20 : decode cJ7_fill_53178 20 = .ok (.return_, 1) := by decide +kernel
theorem dJ3_checkIndex_8e157_0 : decode cJ3_checkIndex_8e157 0 = .ok (.iload_n 0, 1) := by decide +kernel
theorem dJ3_checkIndex_8e157_1 : decode cJ3_checkIndex_8e157 1 = .ok (.ifCond .lt 8, 3) := by decide +kernel
theorem dJ3_checkIndex_8e157_4 : decode cJ3_checkIndex_8e157 4 = .ok (.iload_n 0, 1) := by decide +kernel
theorem dJ3_checkIndex_8e157_5 : decode cJ3_checkIndex_8e157 5 = .ok (.iload_n 1, 1) := by decide +kernel
theorem dJ3_checkIndex_8e157_6 : decode cJ3_checkIndex_8e157 6 = .ok (.if_icmp .lt 10, 3) := by decide +kernel
theorem dJ3_checkIndex_8e157_9 : decode cJ3_checkIndex_8e157 9 = .ok (.aload_n 2, 1) := by decide +kernel
theorem dJ3_checkIndex_8e157_10 : decode cJ3_checkIndex_8e157 10 = .ok (.iload_n 0, 1) := by decide +kernel
theorem dJ3_checkIndex_8e157_11 : decode cJ3_checkIndex_8e157 11 = .ok (.iload_n 1, 1) := by decide +kernel
theorem dJ3_checkIndex_8e157_12 : decode cJ3_checkIndex_8e157 12 = .ok (.invokestatic 95, 3) := by decide +kernel
theorem dJ3_checkIndex_8e157_15 : decode cJ3_checkIndex_8e157 15 = .ok (.athrow, 1) := by decide +kernel
theorem dJ3_checkIndex_8e157_16 : decode cJ3_checkIndex_8e157 16 = .ok (.iload_n 0, 1) := by decide +kernel
theorem dJ3_checkIndex_8e157_17 : decode cJ3_checkIndex_8e157 17 = .ok (.ireturn, 1) := by decide +kernel
