theorem dX0_init_0 : decode cX0_init 0 = .ok (.aload_n 0, 1) := by decide +kernel
theorem dX0_init_1 : decode cX0_init 1 = .ok (.invokespecial 3, 3) := by decide +kernel
theorem dX0_init_4 : decode cX0_init 4 = .ok (.aload_n 0, 1) := by decide +kernel
theorem dX0_init_5 : decode cX0_init 5 = .ok (.new 9, 3) := by decide +kernel
theorem dX0_init_8 : decode cX0_init 8 = .ok (.dup, 1) := by decide +kernel
theorem dX0_init_9 : decode cX0_init 9 = .ok (.invokespecial 11, 3) := by decide +kernel
theorem dX0_init_12 : decode cX0_init 12 = .ok (.putfield 12, 3) := by decide +kernel
theorem dX0_init_15 : decode cX0_init 15 = .ok (.aload_n 0, 1) := by decide +kernel
theorem dX0_init_16 : decode cX0_init 16 = .ok (.iconst 0, 1) := by decide +kernel
theorem dX0_init_17 : decode cX0_init 17 = .ok (.putfield 18, 3) := by decide +kernel
theorem dX0_init_20 : decode cX0_init 20 = .ok (.aload_n 0, 1) := by decide +kernel
theorem dX0_init_21 : decode cX0_init 21 = .ok (.iconst 0, 1) := by decide +kernel
theorem dX0_init_22 : decode cX0_init 22 = .ok (.putfield 22, 3) := by decide +kernel
theorem dX0_init_25 : decode cX0_init 25 = .ok (.aload_n 0, 1) := by decide +kernel
theorem dX0_init_26 : decode cX0_init 26 = .ok (.iconst 0, 1) := by decide +kernel
theorem dX0_init_27 : decode cX0_init 27 = .ok (.putfield 25, 3) := by decide +kernel
theorem dX0_init_30 : decode cX0_init 30 = .ok (.aload_n 0, 1) := by decide +kernel
theorem dX0_init_31 : decode cX0_init 31 = .ok (.bipush 9, 2) := by decide +kernel
theorem dX0_init_33 : decode cX0_init 33 = .ok (.newarray .int, 2) := by decide +kernel
theorem dX0_init_35 : decode cX0_init 35 = .ok (.putfield 28, 3) := by decide +kernel
theorem dX0_init_38 : decode cX0_init 38 = .ok (.aload_n 0, 1) := by decide +kernel
theorem dX0_init_39 : decode cX0_init 39 = .ok (.bipush 9, 2) := by decide +kernel
theorem dX0_init_41 : decode cX0_init 41 = .ok (.newarray .int, 2) := by decide +kernel
theorem dX0_init_43 : decode cX0_init 43 = .ok (.putfield 32, 3) := by decide +kernel
theorem dX0_init_46 : decode cX0_init 46 = .ok (.aload_n 0, 1) := by decide +kernel
theorem dX0_init_47 : decode cX0_init 47 = .ok (.bipush 72, 2) := by decide +kernel
theorem dX0_init_49 : decode cX0_init 49 = .ok (.newarray .int, 2) := by decide +kernel
theorem dX0_init_51 : decode cX0_init 51 = .ok (.putfield 35, 3) := by decide +kernel
theorem dX0_init_54 : decode cX0_init 54 = .ok (.aload_n 0, 1) := by decide +kernel
theorem dX0_init_55 : decode cX0_init 55 = .ok (.bipush 30, 2) := by decide +kernel
theorem dX0_init_57 : decode cX0_init 57 = .ok (.newarray .int, 2) := by decide +kernel
theorem dX0_init_59 : decode cX0_init 59 = .ok (.putfield 38, 3) := by decide +kernel
theorem dX0_init_62 : decode cX0_init 62 = .ok (.aload_n 0, 1) := by decide +kernel
theorem dX0_init_63 : decode cX0_init 63 = .ok (.bipush 30, 2) := by decide +kernel
theorem dX0_init_65 : decode cX0_init 65 = .ok (.newarray .int, 2) := by decide +kernel
theorem dX0_init_67 : decode cX0_init 67 = .ok (.putfield 41, 3) := by decide +kernel
theorem dX0_init_70 : decode cX0_init 70 = .ok (.aload_n 0, 1) := by decide +kernel
theorem dX0_init_71 : decode cX0_init 71 = .ok (.bipush 9, 2) := by decide +kernel
theorem dX0_init_73 : decode cX0_init 73 = .ok (.newarray .int, 2) := by decide +kernel
theorem dX0_init_75 : decode cX0_init 75 = .ok (.putfield 44, 3) := by decide +kernel
theorem dX0_init_78 : decode cX0_init 78 = .ok (.aload_n 0, 1) := by decide +kernel
theorem dX0_init_79 : decode cX0_init 79 = .ok (.bipush 9, 2) := by decide +kernel
theorem dX0_init_81 : decode cX0_init 81 = .ok (.newarray .int, 2) := by decide +kernel
theorem dX0_init_83 : decode cX0_init 83 = .ok (.putfield 47, 3) := by decide +kernel
theorem dX0_init_86 : decode cX0_init 86 = .ok (.return_, 1) := by decide +kernel
theorem dX0_run_0 : decode cX0_run 0 = .ok (.aload_n 0, 1) := by decide +kernel
theorem dX0_run_1 : decode cX0_run 1 = .ok (.iconst 0, 1) := by decide +kernel
theorem dX0_run_2 : decode cX0_run 2 = .ok (.putfield 22, 3) := by decide +kernel
theorem dX0_run_5 : decode cX0_run 5 = .ok (.iconst 0, 1) := by decide +kernel
theorem dX0_run_6 : decode cX0_run 6 = .ok (.istore_n 1, 1) := by decide +kernel
theorem dX0_run_7 : decode cX0_run 7 = .ok (.iload_n 1, 1) := by decide +kernel
theorem dX0_run_8 : decode cX0_run 8 = .ok (.aload_n 0, 1) := by decide +kernel
theorem dX0_run_9 : decode cX0_run 9 = .ok (.getfield 12, 3) := by decide +kernel
theorem dX0_run_12 : decode cX0_run 12 = .ok (.getfield 50, 3) := by decide +kernel
theorem dX0_run_15 : decode cX0_run 15 = .ok (.if_icmp .ge 31, 3) := by decide +kernel
theorem dX0_run_18 : decode cX0_run 18 = .ok (.aload_n 0, 1) := by decide +kernel
theorem dX0_run_19 : decode cX0_run 19 = .ok (.getfield 28, 3) := by decide +kernel
theorem dX0_run_22 : decode cX0_run 22 = .ok (.iload_n 1, 1) := by decide +kernel
theorem dX0_run_23 : decode cX0_run 23 = .ok (.iconst 0, 1) := by decide +kernel
theorem dX0_run_24 : decode cX0_run 24 = .ok (.iastore, 1) := by decide +kernel
theorem dX0_run_25 : decode cX0_run 25 = .ok (.aload_n 0, 1) := by decide +kernel
theorem dX0_run_26 : decode cX0_run 26 = .ok (.getfield 44, 3) := by decide +kernel
theorem dX0_run_29 : decode cX0_run 29 = .ok (.iload_n 1, 1) := by decide +kernel
theorem dX0_run_30 : decode cX0_run 30 = .ok (.aload_n 0, 1) := by decide +kernel
theorem dX0_run_31 : decode cX0_run 31 = .ok (.getfield 12, 3) := by decide +kernel
theorem dX0_run_34 : decode cX0_run 34 = .ok (.getfield 53, 3) := by decide +kernel
theorem dX0_run_37 : decode cX0_run 37 = .ok (.iload_n 1, 1) := by decide +kernel
theorem dX0_run_38 : decode cX0_run 38 = .ok (.iaload, 1) := by decide +kernel
theorem dX0_run_39 : decode cX0_run 39 = .ok (.iastore, 1) := by decide +kernel
theorem dX0_run_40 : decode cX0_run 40 = .ok (.iinc 1 1, 3) := by decide +kernel
theorem dX0_run_43 : decode cX0_run 43 = .ok (.goto (-36), 3) := by decide +kernel
theorem dX0_run_46 : decode cX0_run 46 = .ok (.aload_n 0, 1) := by decide +kernel
theorem dX0_run_47 : decode cX0_run 47 = .ok (.invokevirtual 56, 3) := by decide +kernel
theorem dX0_run_50 : decode cX0_run 50 = .ok (.aload_n 0, 1) := by decide +kernel
theorem dX0_run_51 : decode cX0_run 51 = .ok (.aload_n 0, 1) := by decide +kernel
theorem dX0_run_52 : decode cX0_run 52 = .ok (.getfield 22, 3) := by decide +kernel
theorem dX0_run_55 : decode cX0_run 55 = .ok (.putfield 25, 3) := by decide +kernel
theorem dX0_run_58 : decode cX0_run 58 = .ok (.iconst 0, 1) := by decide +kernel
theorem dX0_run_59 : decode cX0_run 59 = .ok (.istore_n 1, 1) := by decide +kernel
theorem dX0_run_60 : decode cX0_run 60 = .ok (.iload_n 1, 1) := by decide +kernel
theorem dX0_run_61 : decode cX0_run 61 = .ok (.aload_n 0, 1) := by decide +kernel
theorem dX0_run_62 : decode cX0_run 62 = .ok (.getfield 12, 3) := by decide +kernel
theorem dX0_run_65 : decode cX0_run 65 = .ok (.getfield 50, 3) := by decide +kernel
theorem dX0_run_68 : decode cX0_run 68 = .ok (.if_icmp .ge 21, 3) := by decide +kernel
theorem dX0_run_71 : decode cX0_run 71 = .ok (.aload_n 0, 1) := by decide +kernel
theorem dX0_run_72 : decode cX0_run 72 = .ok (.getfield 32, 3) := by decide +kernel
theorem dX0_run_75 : decode cX0_run 75 = .ok (.iload_n 1, 1) := by decide +kernel
theorem dX0_run_76 : decode cX0_run 76 = .ok (.aload_n 0, 1) := by decide +kernel
theorem dX0_run_77 : decode cX0_run 77 = .ok (.getfield 28, 3) := by decide +kernel
theorem dX0_run_80 : decode cX0_run 80 = .ok (.iload_n 1, 1) := by decide +kernel
theorem dX0_run_81 : decode cX0_run 81 = .ok (.iaload, 1) := by decide +kernel
theorem dX0_run_82 : decode cX0_run 82 = .ok (.iastore, 1) := by decide +kernel
theorem dX0_run_83 : decode cX0_run 83 = .ok (.iinc 1 1, 3) := by decide +kernel
theorem dX0_run_86 : decode cX0_run 86 = .ok (.goto (-26), 3) := by decide +kernel
theorem dX0_run_89 : decode cX0_run 89 = .ok (.aload_n 0, 1) := by decide +kernel
theorem dX0_run_90 : decode cX0_run 90 = .ok (.invokevirtual 59, 3) := by decide +kernel
theorem dX0_run_93 : decode cX0_run 93 = .ok (.return_, 1) := by decide +kernel
theorem dX0_runClock_0 : decode cX0_runClock 0 = .ok (.aload_n 0, 1) := by decide +kernel
theorem dX0_runClock_1 : decode cX0_runClock 1 = .ok (.getfield 12, 3) := by decide +kernel
theorem dX0_runClock_4 : decode cX0_runClock 4 = .ok (.getfield 62, 3) := by decide +kernel
theorem dX0_runClock_7 : decode cX0_runClock 7 = .ok (.istore_n 1, 1) := by decide +kernel
theorem dX0_runClock_8 : decode cX0_runClock 8 = .ok (.aload_n 0, 1) := by decide +kernel
theorem dX0_runClock_9 : decode cX0_runClock 9 = .ok (.iload_n 1, 1) := by decide +kernel
theorem dX0_runClock_10 : decode cX0_runClock 10 = .ok (.invokevirtual 65, 3) := by decide +kernel
theorem dX0_runClock_13 : decode cX0_runClock 13 = .ok (.istore_n 2, 1) := by decide +kernel
theorem dX0_runClock_14 : decode cX0_runClock 14 = .ok (.aload_n 0, 1) := by decide +kernel
theorem dX0_runClock_15 : decode cX0_runClock 15 = .ok (.iload_n 1, 1) := by decide +kernel
theorem dX0_runClock_16 : decode cX0_runClock 16 = .ok (.iload_n 2, 1) := by decide +kernel
theorem dX0_runClock_17 : decode cX0_runClock 17 = .ok (.invokevirtual 69, 3) := by decide +kernel
theorem dX0_runClock_20 : decode cX0_runClock 20 = .ok (.iconst 0, 1) := by decide +kernel
theorem dX0_runClock_21 : decode cX0_runClock 21 = .ok (.istore_n 3, 1) := by decide +kernel
theorem dX0_runClock_22 : decode cX0_runClock 22 = .ok (.iload_n 3, 1) := by decide +kernel
theorem dX0_runClock_23 : decode cX0_runClock 23 = .ok (.bipush 99, 2) := by decide +kernel
theorem dX0_runClock_25 : decode cX0_runClock 25 = .ok (.if_icmp .gt 37, 3) := by decide +kernel
theorem dX0_runClock_28 : decode cX0_runClock 28 = .ok (.iload_n 2, 1) := by decide +kernel
theorem dX0_runClock_29 : decode cX0_runClock 29 = .ok (.aload_n 0, 1) := by decide +kernel
theorem dX0_runClock_30 : decode cX0_runClock 30 = .ok (.getfield 12, 3) := by decide +kernel
theorem dX0_runClock_33 : decode cX0_runClock 33 = .ok (.getfield 73, 3) := by decide +kernel
theorem dX0_runClock_36 : decode cX0_runClock 36 = .ok (.if_icmp .le 26, 3) := by decide +kernel
theorem dX0_runClock_39 : decode cX0_runClock 39 = .ok (.aload_n 0, 1) := by decide +kernel
theorem dX0_runClock_40 : decode cX0_runClock 40 = .ok (.invokevirtual 76, 3) := by decide +kernel
theorem dX0_runClock_43 : decode cX0_runClock 43 = .ok (.istore_n 1, 1) := by decide +kernel
theorem dX0_runClock_44 : decode cX0_runClock 44 = .ok (.aload_n 0, 1) := by decide +kernel
theorem dX0_runClock_45 : decode cX0_runClock 45 = .ok (.iload_n 1, 1) := by decide +kernel
theorem dX0_runClock_46 : decode cX0_runClock 46 = .ok (.invokevirtual 65, 3) := by decide +kernel
theorem dX0_runClock_49 : decode cX0_runClock 49 = .ok (.istore_n 2, 1) := by decide +kernel
theorem dX0_runClock_50 : decode cX0_runClock 50 = .ok (.aload_n 0, 1) := by decide +kernel
theorem dX0_runClock_51 : decode cX0_runClock 51 = .ok (.iload_n 1, 1) := by decide +kernel
theorem dX0_runClock_52 : decode cX0_runClock 52 = .ok (.iload_n 2, 1) := by decide +kernel
theorem dX0_runClock_53 : decode cX0_runClock 53 = .ok (.invokevirtual 69, 3) := by decide +kernel
theorem dX0_runClock_56 : decode cX0_runClock 56 = .ok (.iinc 3 1, 3) := by decide +kernel
theorem dX0_runClock_59 : decode cX0_runClock 59 = .ok (.goto (-37), 3) := by decide +kernel
theorem dX0_runClock_62 : decode cX0_runClock 62 = .ok (.aload_n 0, 1) := by decide +kernel
theorem dX0_runClock_63 : decode cX0_runClock 63 = .ok (.iload_n 1, 1) := by decide +kernel
theorem dX0_runClock_64 : decode cX0_runClock 64 = .ok (.putfield 18, 3) := by decide +kernel
theorem dX0_runClock_67 : decode cX0_runClock 67 = .ok (.return_, 1) := by decide +kernel
theorem dX0_wantsNow_0 : decode cX0_wantsNow 0 = .ok (.iconst 0, 1) := by decide +kernel
theorem dX0_wantsNow_1 : decode cX0_wantsNow 1 = .ok (.istore_n 2, 1) := by decide +kernel
theorem dX0_wantsNow_2 : decode cX0_wantsNow 2 = .ok (.iconst 0, 1) := by decide +kernel
theorem dX0_wantsNow_3 : decode cX0_wantsNow 3 = .ok (.istore_n 3, 1) := by decide +kernel
theorem dX0_wantsNow_4 : decode cX0_wantsNow 4 = .ok (.iload_n 3, 1) := by decide +kernel
theorem dX0_wantsNow_5 : decode cX0_wantsNow 5 = .ok (.aload_n 0, 1) := by decide +kernel
theorem dX0_wantsNow_6 : decode cX0_wantsNow 6 = .ok (.getfield 12, 3) := by decide +kernel
theorem dX0_wantsNow_9 : decode cX0_wantsNow 9 = .ok (.getfield 50, 3) := by decide +kernel
theorem dX0_wantsNow_12 : decode cX0_wantsNow 12 = .ok (.if_icmp .ge 59, 3) := by decide +kernel
theorem dX0_wantsNow_15 : decode cX0_wantsNow 15 = .ok (.aload_n 0, 1) := by decide +kernel
theorem dX0_wantsNow_16 : decode cX0_wantsNow 16 = .ok (.getfield 44, 3) := by decide +kernel
theorem dX0_wantsNow_19 : decode cX0_wantsNow 19 = .ok (.iload_n 3, 1) := by decide +kernel
theorem dX0_wantsNow_20 : decode cX0_wantsNow 20 = .ok (.iaload, 1) := by decide +kernel
theorem dX0_wantsNow_21 : decode cX0_wantsNow 21 = .ok (.ifCond .le 36, 3) := by decide +kernel
theorem dX0_wantsNow_24 : decode cX0_wantsNow 24 = .ok (.aload_n 0, 1) := by decide +kernel
theorem dX0_wantsNow_25 : decode cX0_wantsNow 25 = .ok (.getfield 12, 3) := by decide +kernel
theorem dX0_wantsNow_28 : decode cX0_wantsNow 28 = .ok (.iload_n 3, 1) := by decide +kernel
theorem dX0_wantsNow_29 : decode cX0_wantsNow 29 = .ok (.aload_n 0, 1) := by decide +kernel
theorem dX0_wantsNow_30 : decode cX0_wantsNow 30 = .ok (.getfield 44, 3) := by decide +kernel
theorem dX0_wantsNow_33 : decode cX0_wantsNow 33 = .ok (.iload_n 3, 1) := by decide +kernel
theorem dX0_wantsNow_34 : decode cX0_wantsNow 34 = .ok (.iaload, 1) := by decide +kernel
theorem dX0_wantsNow_35 : decode cX0_wantsNow 35 = .ok (.iconst 1, 1) := by decide +kernel
theorem dX0_wantsNow_36 : decode cX0_wantsNow 36 = .ok (.isub, 1) := by decide +kernel
theorem dX0_wantsNow_37 : decode cX0_wantsNow 37 = .ok (.invokevirtual 80, 3) := by decide +kernel
theorem dX0_wantsNow_40 : decode cX0_wantsNow 40 = .ok (.iload_n 1, 1) := by decide +kernel
theorem dX0_wantsNow_41 : decode cX0_wantsNow 41 = .ok (.if_icmp .gt 16, 3) := by decide +kernel
theorem dX0_wantsNow_44 : decode cX0_wantsNow 44 = .ok (.aload_n 0, 1) := by decide +kernel
theorem dX0_wantsNow_45 : decode cX0_wantsNow 45 = .ok (.getfield 44, 3) := by decide +kernel
theorem dX0_wantsNow_48 : decode cX0_wantsNow 48 = .ok (.iload_n 3, 1) := by decide +kernel
theorem dX0_wantsNow_49 : decode cX0_wantsNow 49 = .ok (.dup2, 1) := by decide +kernel
theorem dX0_wantsNow_50 : decode cX0_wantsNow 50 = .ok (.iaload, 1) := by decide +kernel
theorem dX0_wantsNow_51 : decode cX0_wantsNow 51 = .ok (.iconst 1, 1) := by decide +kernel
theorem dX0_wantsNow_52 : decode cX0_wantsNow 52 = .ok (.isub, 1) := by decide +kernel
theorem dX0_wantsNow_53 : decode cX0_wantsNow 53 = .ok (.iastore, 1) := by decide +kernel
theorem dX0_wantsNow_54 : decode cX0_wantsNow 54 = .ok (.goto (-39), 3) := by decide +kernel
theorem dX0_wantsNow_57 : decode cX0_wantsNow 57 = .ok (.iload_n 2, 1) := by decide +kernel
theorem dX0_wantsNow_58 : decode cX0_wantsNow 58 = .ok (.aload_n 0, 1) := by decide +kernel
theorem dX0_wantsNow_59 : decode cX0_wantsNow 59 = .ok (.iload_n 3, 1) := by decide +kernel
theorem dX0_wantsNow_60 : decode cX0_wantsNow 60 = .ok (.invokevirtual 84, 3) := by decide +kernel
theorem dX0_wantsNow_63 : decode cX0_wantsNow 63 = .ok (.iadd, 1) := by decide +kernel
theorem dX0_wantsNow_64 : decode cX0_wantsNow 64 = .ok (.istore_n 2, 1) := by decide +kernel
theorem dX0_wantsNow_65 : decode cX0_wantsNow 65 = .ok (.iinc 3 1, 3) := by decide +kernel
theorem dX0_wantsNow_68 : decode cX0_wantsNow 68 = .ok (.goto (-64), 3) := by decide +kernel
theorem dX0_wantsNow_71 : decode cX0_wantsNow 71 = .ok (.iload_n 2, 1) := by decide +kernel
theorem dX0_wantsNow_72 : decode cX0_wantsNow 72 = .ok (.ireturn, 1) := by decide +kernel
theorem dX0_wantNow_0 : decode cX0_wantNow 0 = .ok (.aload_n 0, 1) := by decide +kernel
theorem dX0_wantNow_1 : decode cX0_wantNow 1 = .ok (.getfield 44, 3) := by decide +kernel
theorem dX0_wantNow_4 : decode cX0_wantNow 4 = .ok (.iload_n 1, 1) := by decide +kernel
theorem dX0_wantNow_5 : decode cX0_wantNow 5 = .ok (.iaload, 1) := by decide +kernel
theorem dX0_wantNow_6 : decode cX0_wantNow 6 = .ok (.aload_n 0, 1) := by decide +kernel
theorem dX0_wantNow_7 : decode cX0_wantNow 7 = .ok (.getfield 12, 3) := by decide +kernel
theorem dX0_wantNow_10 : decode cX0_wantNow 10 = .ok (.getfield 87, 3) := by decide +kernel
theorem dX0_wantNow_13 : decode cX0_wantNow 13 = .ok (.iload_n 1, 1) := by decide +kernel
theorem dX0_wantNow_14 : decode cX0_wantNow 14 = .ok (.iaload, 1) := by decide +kernel
theorem dX0_wantNow_15 : decode cX0_wantNow 15 = .ok (.invokestatic 90, 3) := by decide +kernel
theorem dX0_wantNow_18 : decode cX0_wantNow 18 = .ok (.ireturn, 1) := by decide +kernel
theorem dX0_leastWanted_0 : decode cX0_leastWanted 0 = .ok (.bipush 99, 2) := by decide +kernel
theorem dX0_leastWanted_2 : decode cX0_leastWanted 2 = .ok (.istore_n 1, 1) := by decide +kernel
theorem dX0_leastWanted_3 : decode cX0_leastWanted 3 = .ok (.iconst 0, 1) := by decide +kernel
theorem dX0_leastWanted_4 : decode cX0_leastWanted 4 = .ok (.istore_n 2, 1) := by decide +kernel
theorem dX0_leastWanted_5 : decode cX0_leastWanted 5 = .ok (.iload_n 2, 1) := by decide +kernel
theorem dX0_leastWanted_6 : decode cX0_leastWanted 6 = .ok (.aload_n 0, 1) := by decide +kernel
theorem dX0_leastWanted_7 : decode cX0_leastWanted 7 = .ok (.getfield 12, 3) := by decide +kernel
theorem dX0_leastWanted_10 : decode cX0_leastWanted 10 = .ok (.getfield 50, 3) := by decide +kernel
theorem dX0_leastWanted_13 : decode cX0_leastWanted 13 = .ok (.if_icmp .ge 39, 3) := by decide +kernel
theorem dX0_leastWanted_16 : decode cX0_leastWanted 16 = .ok (.aload_n 0, 1) := by decide +kernel
theorem dX0_leastWanted_17 : decode cX0_leastWanted 17 = .ok (.getfield 44, 3) := by decide +kernel
theorem dX0_leastWanted_20 : decode cX0_leastWanted 20 = .ok (.iload_n 2, 1) := by decide +kernel
theorem dX0_leastWanted_21 : decode cX0_leastWanted 21 = .ok (.iaload, 1) := by decide +kernel
theorem dX0_leastWanted_22 : decode cX0_leastWanted 22 = .ok (.ifCond .le 24, 3) := by decide +kernel
theorem dX0_leastWanted_25 : decode cX0_leastWanted 25 = .ok (.iload_n 1, 1) := by decide +kernel
theorem dX0_leastWanted_26 : decode cX0_leastWanted 26 = .ok (.aload_n 0, 1) := by decide +kernel
theorem dX0_leastWanted_27 : decode cX0_leastWanted 27 = .ok (.getfield 12, 3) := by decide +kernel
theorem dX0_leastWanted_30 : decode cX0_leastWanted 30 = .ok (.iload_n 2, 1) := by decide +kernel
theorem dX0_leastWanted_31 : decode cX0_leastWanted 31 = .ok (.aload_n 0, 1) := by decide +kernel
theorem dX0_leastWanted_32 : decode cX0_leastWanted 32 = .ok (.getfield 44, 3) := by decide +kernel
theorem dX0_leastWanted_35 : decode cX0_leastWanted 35 = .ok (.iload_n 2, 1) := by decide +kernel
theorem dX0_leastWanted_36 : decode cX0_leastWanted 36 = .ok (.iaload, 1) := by decide +kernel
theorem dX0_leastWanted_37 : decode cX0_leastWanted 37 = .ok (.iconst 1, 1) := by decide +kernel
theorem dX0_leastWanted_38 : decode cX0_leastWanted 38 = .ok (.isub, 1) := by decide +kernel
theorem dX0_leastWanted_39 : decode cX0_leastWanted 39 = .ok (.invokevirtual 80, 3) := by decide +kernel
theorem dX0_leastWanted_42 : decode cX0_leastWanted 42 = .ok (.invokestatic 90, 3) := by decide +kernel
theorem dX0_leastWanted_45 : decode cX0_leastWanted 45 = .ok (.istore_n 1, 1) := by decide +kernel
theorem dX0_leastWanted_46 : decode cX0_leastWanted 46 = .ok (.iinc 2 1, 3) := by decide +kernel
theorem dX0_leastWanted_49 : decode cX0_leastWanted 49 = .ok (.goto (-44), 3) := by decide +kernel
theorem dX0_leastWanted_52 : decode cX0_leastWanted 52 = .ok (.iload_n 1, 1) := by decide +kernel
theorem dX0_leastWanted_53 : decode cX0_leastWanted 53 = .ok (.ireturn, 1) := by decide +kernel
theorem dX0_clinchAll_0 : decode cX0_clinchAll 0 = .ok (.iconst 0, 1) := by decide +kernel
theorem dX0_clinchAll_1 : decode cX0_clinchAll 1 = .ok (.istore_n 3, 1) := by decide +kernel
theorem dX0_clinchAll_2 : decode cX0_clinchAll 2 = .ok (.iload_n 3, 1) := by decide +kernel
theorem dX0_clinchAll_3 : decode cX0_clinchAll 3 = .ok (.aload_n 0, 1) := by decide +kernel
theorem dX0_clinchAll_4 : decode cX0_clinchAll 4 = .ok (.getfield 12, 3) := by decide +kernel
theorem dX0_clinchAll_7 : decode cX0_clinchAll 7 = .ok (.getfield 50, 3) := by decide +kernel
theorem dX0_clinchAll_10 : decode cX0_clinchAll 10 = .ok (.if_icmp .ge 62, 3) := by decide +kernel
theorem dX0_clinchAll_13 : decode cX0_clinchAll 13 = .ok (.aload_n 0, 1) := by decide +kernel
theorem dX0_clinchAll_14 : decode cX0_clinchAll 14 = .ok (.iload_n 3, 1) := by decide +kernel
theorem dX0_clinchAll_15 : decode cX0_clinchAll 15 = .ok (.invokevirtual 84, 3) := by decide +kernel
theorem dX0_clinchAll_18 : decode cX0_clinchAll 18 = .ok (.istore 4, 2) := by decide +kernel
theorem dX0_clinchAll_20 : decode cX0_clinchAll 20 = .ok (.iload 4, 2) := by decide +kernel
theorem dX0_clinchAll_22 : decode cX0_clinchAll 22 = .ok (.aload_n 0, 1) := by decide +kernel
theorem dX0_clinchAll_23 : decode cX0_clinchAll 23 = .ok (.getfield 12, 3) := by decide +kernel
theorem dX0_clinchAll_26 : decode cX0_clinchAll 26 = .ok (.getfield 73, 3) := by decide +kernel
theorem dX0_clinchAll_29 : decode cX0_clinchAll 29 = .ok (.iload_n 2, 1) := by decide +kernel
theorem dX0_clinchAll_30 : decode cX0_clinchAll 30 = .ok (.iload 4, 2) := by decide +kernel
theorem dX0_clinchAll_32 : decode cX0_clinchAll 32 = .ok (.isub, 1) := by decide +kernel
theorem dX0_clinchAll_33 : decode cX0_clinchAll 33 = .ok (.isub, 1) := by decide +kernel
theorem dX0_clinchAll_34 : decode cX0_clinchAll 34 = .ok (.invokestatic 90, 3) := by decide +kernel
theorem dX0_clinchAll_37 : decode cX0_clinchAll 37 = .ok (.istore 5, 2) := by decide +kernel
theorem dX0_clinchAll_39 : decode cX0_clinchAll 39 = .ok (.aload_n 0, 1) := by decide +kernel
theorem dX0_clinchAll_40 : decode cX0_clinchAll 40 = .ok (.getfield 28, 3) := by decide +kernel
theorem dX0_clinchAll_43 : decode cX0_clinchAll 43 = .ok (.iload_n 3, 1) := by decide +kernel
theorem dX0_clinchAll_44 : decode cX0_clinchAll 44 = .ok (.iaload, 1) := by decide +kernel
theorem dX0_clinchAll_45 : decode cX0_clinchAll 45 = .ok (.istore 6, 2) := by decide +kernel
theorem dX0_clinchAll_47 : decode cX0_clinchAll 47 = .ok (.iload 6, 2) := by decide +kernel
theorem dX0_clinchAll_49 : decode cX0_clinchAll 49 = .ok (.iload 5, 2) := by decide +kernel
theorem dX0_clinchAll_51 : decode cX0_clinchAll 51 = .ok (.if_icmp .ge 15, 3) := by decide +kernel
theorem dX0_clinchAll_54 : decode cX0_clinchAll 54 = .ok (.aload_n 0, 1) := by decide +kernel
theorem dX0_clinchAll_55 : decode cX0_clinchAll 55 = .ok (.iload_n 3, 1) := by decide +kernel
theorem dX0_clinchAll_56 : decode cX0_clinchAll 56 = .ok (.iload_n 1, 1) := by decide +kernel
theorem dX0_clinchAll_57 : decode cX0_clinchAll 57 = .ok (.invokevirtual 95, 3) := by decide +kernel
theorem dX0_clinchAll_60 : decode cX0_clinchAll 60 = .ok (.iinc 6 1, 3) := by decide +kernel
theorem dX0_clinchAll_63 : decode cX0_clinchAll 63 = .ok (.goto (-16), 3) := by decide +kernel
theorem dX0_clinchAll_66 : decode cX0_clinchAll 66 = .ok (.iinc 3 1, 3) := by decide +kernel
theorem dX0_clinchAll_69 : decode cX0_clinchAll 69 = .ok (.goto (-67), 3) := by decide +kernel
theorem dX0_clinchAll_72 : decode cX0_clinchAll 72 = .ok (.return_, 1) := by decide +kernel
theorem dX0_shareOut_0 : decode cX0_shareOut 0 = .ok (.iconst 0, 1) := by decide +kernel
theorem dX0_shareOut_1 : decode cX0_shareOut 1 = .ok (.istore_n 1, 1) := by decide +kernel
theorem dX0_shareOut_2 : decode cX0_shareOut 2 = .ok (.iload_n 1, 1) := by decide +kernel
theorem dX0_shareOut_3 : decode cX0_shareOut 3 = .ok (.bipush 8, 2) := by decide +kernel
theorem dX0_shareOut_5 : decode cX0_shareOut 5 = .ok (.if_icmp .ge 86, 3) := by decide +kernel
theorem dX0_shareOut_8 : decode cX0_shareOut 8 = .ok (.aload_n 0, 1) := by decide +kernel
theorem dX0_shareOut_9 : decode cX0_shareOut 9 = .ok (.getfield 22, 3) := by decide +kernel
theorem dX0_shareOut_12 : decode cX0_shareOut 12 = .ok (.aload_n 0, 1) := by decide +kernel
theorem dX0_shareOut_13 : decode cX0_shareOut 13 = .ok (.getfield 12, 3) := by decide +kernel
theorem dX0_shareOut_16 : decode cX0_shareOut 16 = .ok (.getfield 73, 3) := by decide +kernel
theorem dX0_shareOut_19 : decode cX0_shareOut 19 = .ok (.if_icmp .ge 72, 3) := by decide +kernel
theorem dX0_shareOut_22 : decode cX0_shareOut 22 = .ok (.iconst 0, 1) := by decide +kernel
theorem dX0_shareOut_23 : decode cX0_shareOut 23 = .ok (.istore_n 2, 1) := by decide +kernel
theorem dX0_shareOut_24 : decode cX0_shareOut 24 = .ok (.iload_n 2, 1) := by decide +kernel
theorem dX0_shareOut_25 : decode cX0_shareOut 25 = .ok (.aload_n 0, 1) := by decide +kernel
theorem dX0_shareOut_26 : decode cX0_shareOut 26 = .ok (.getfield 12, 3) := by decide +kernel
theorem dX0_shareOut_29 : decode cX0_shareOut 29 = .ok (.getfield 50, 3) := by decide +kernel
theorem dX0_shareOut_32 : decode cX0_shareOut 32 = .ok (.if_icmp .ge 53, 3) := by decide +kernel
theorem dX0_shareOut_35 : decode cX0_shareOut 35 = .ok (.aload_n 0, 1) := by decide +kernel
theorem dX0_shareOut_36 : decode cX0_shareOut 36 = .ok (.getfield 22, 3) := by decide +kernel
theorem dX0_shareOut_39 : decode cX0_shareOut 39 = .ok (.aload_n 0, 1) := by decide +kernel
theorem dX0_shareOut_40 : decode cX0_shareOut 40 = .ok (.getfield 12, 3) := by decide +kernel
theorem dX0_shareOut_43 : decode cX0_shareOut 43 = .ok (.getfield 73, 3) := by decide +kernel
theorem dX0_shareOut_46 : decode cX0_shareOut 46 = .ok (.if_icmp .ge 39, 3) := by decide +kernel
theorem dX0_shareOut_49 : decode cX0_shareOut 49 = .ok (.aload_n 0, 1) := by decide +kernel
theorem dX0_shareOut_50 : decode cX0_shareOut 50 = .ok (.getfield 12, 3) := by decide +kernel
theorem dX0_shareOut_53 : decode cX0_shareOut 53 = .ok (.iload_n 2, 1) := by decide +kernel
theorem dX0_shareOut_54 : decode cX0_shareOut 54 = .ok (.aload_n 0, 1) := by decide +kernel
theorem dX0_shareOut_55 : decode cX0_shareOut 55 = .ok (.getfield 18, 3) := by decide +kernel
theorem dX0_shareOut_58 : decode cX0_shareOut 58 = .ok (.invokevirtual 98, 3) := by decide +kernel
theorem dX0_shareOut_61 : decode cX0_shareOut 61 = .ok (.aload_n 0, 1) := by decide +kernel
theorem dX0_shareOut_62 : decode cX0_shareOut 62 = .ok (.getfield 28, 3) := by decide +kernel
theorem dX0_shareOut_65 : decode cX0_shareOut 65 = .ok (.iload_n 2, 1) := by decide +kernel
theorem dX0_shareOut_66 : decode cX0_shareOut 66 = .ok (.iaload, 1) := by decide +kernel
theorem dX0_shareOut_67 : decode cX0_shareOut 67 = .ok (.if_icmp .le 12, 3) := by decide +kernel
theorem dX0_shareOut_70 : decode cX0_shareOut 70 = .ok (.aload_n 0, 1) := by decide +kernel
theorem dX0_shareOut_71 : decode cX0_shareOut 71 = .ok (.iload_n 2, 1) := by decide +kernel
theorem dX0_shareOut_72 : decode cX0_shareOut 72 = .ok (.aload_n 0, 1) := by decide +kernel
theorem dX0_shareOut_73 : decode cX0_shareOut 73 = .ok (.getfield 18, 3) := by decide +kernel
theorem dX0_shareOut_76 : decode cX0_shareOut 76 = .ok (.invokevirtual 95, 3) := by decide +kernel
theorem dX0_shareOut_79 : decode cX0_shareOut 79 = .ok (.iinc 2 1, 3) := by decide +kernel
theorem dX0_shareOut_82 : decode cX0_shareOut 82 = .ok (.goto (-58), 3) := by decide +kernel
theorem dX0_shareOut_85 : decode cX0_shareOut 85 = .ok (.iinc 1 1, 3) := by decide +kernel
theorem dX0_shareOut_88 : decode cX0_shareOut 88 = .ok (.goto (-86), 3) := by decide +kernel
theorem dX0_shareOut_91 : decode cX0_shareOut 91 = .ok (.return_, 1) := by decide +kernel
theorem dX0_give_0 : decode cX0_give 0 = .ok (.aload_n 0, 1) := by decide +kernel
theorem dX0_give_1 : decode cX0_give 1 = .ok (.getfield 22, 3) := by decide +kernel
theorem dX0_give_4 : decode cX0_give 4 = .ok (.bipush 30, 2) := by decide +kernel
theorem dX0_give_6 : decode cX0_give 6 = .ok (.if_icmp .ge 14, 3) := by decide +kernel
theorem dX0_give_9 : decode cX0_give 9 = .ok (.aload_n 0, 1) := by decide +kernel
theorem dX0_give_10 : decode cX0_give 10 = .ok (.getfield 28, 3) := by decide +kernel
theorem dX0_give_13 : decode cX0_give 13 = .ok (.iload_n 1, 1) := by decide +kernel
theorem dX0_give_14 : decode cX0_give 14 = .ok (.iaload, 1) := by decide +kernel
theorem dX0_give_15 : decode cX0_give 15 = .ok (.bipush 8, 2) := by decide +kernel
theorem dX0_give_17 : decode cX0_give 17 = .ok (.if_icmp .lt 4, 3) := by decide +kernel
theorem dX0_give_20 : decode cX0_give 20 = .ok (.return_, 1) := by decide +kernel
theorem dX0_give_21 : decode cX0_give 21 = .ok (.aload_n 0, 1) := by decide +kernel
theorem dX0_give_22 : decode cX0_give 22 = .ok (.getfield 35, 3) := by decide +kernel
theorem dX0_give_25 : decode cX0_give 25 = .ok (.iload_n 1, 1) := by decide +kernel
theorem dX0_give_26 : decode cX0_give 26 = .ok (.bipush 8, 2) := by decide +kernel
theorem dX0_give_28 : decode cX0_give 28 = .ok (.imul, 1) := by decide +kernel
theorem dX0_give_29 : decode cX0_give 29 = .ok (.aload_n 0, 1) := by decide +kernel
theorem dX0_give_30 : decode cX0_give 30 = .ok (.getfield 28, 3) := by decide +kernel
theorem dX0_give_33 : decode cX0_give 33 = .ok (.iload_n 1, 1) := by decide +kernel
theorem dX0_give_34 : decode cX0_give 34 = .ok (.iaload, 1) := by decide +kernel
theorem dX0_give_35 : decode cX0_give 35 = .ok (.iadd, 1) := by decide +kernel
theorem dX0_give_36 : decode cX0_give 36 = .ok (.iload_n 2, 1) := by decide +kernel
theorem dX0_give_37 : decode cX0_give 37 = .ok (.iastore, 1) := by decide +kernel
theorem dX0_give_38 : decode cX0_give 38 = .ok (.aload_n 0, 1) := by decide +kernel
theorem dX0_give_39 : decode cX0_give 39 = .ok (.getfield 28, 3) := by decide +kernel
theorem dX0_give_42 : decode cX0_give 42 = .ok (.iload_n 1, 1) := by decide +kernel
theorem dX0_give_43 : decode cX0_give 43 = .ok (.dup2, 1) := by decide +kernel
theorem dX0_give_44 : decode cX0_give 44 = .ok (.iaload, 1) := by decide +kernel
theorem dX0_give_45 : decode cX0_give 45 = .ok (.iconst 1, 1) := by decide +kernel
theorem dX0_give_46 : decode cX0_give 46 = .ok (.iadd, 1) := by decide +kernel
theorem dX0_give_47 : decode cX0_give 47 = .ok (.iastore, 1) := by decide +kernel
theorem dX0_give_48 : decode cX0_give 48 = .ok (.aload_n 0, 1) := by decide +kernel
theorem dX0_give_49 : decode cX0_give 49 = .ok (.getfield 38, 3) := by decide +kernel
theorem dX0_give_52 : decode cX0_give 52 = .ok (.aload_n 0, 1) := by decide +kernel
theorem dX0_give_53 : decode cX0_give 53 = .ok (.getfield 22, 3) := by decide +kernel
theorem dX0_give_56 : decode cX0_give 56 = .ok (.iload_n 1, 1) := by decide +kernel
theorem dX0_give_57 : decode cX0_give 57 = .ok (.iastore, 1) := by decide +kernel
theorem dX0_give_58 : decode cX0_give 58 = .ok (.aload_n 0, 1) := by decide +kernel
theorem dX0_give_59 : decode cX0_give 59 = .ok (.getfield 41, 3) := by decide +kernel
theorem dX0_give_62 : decode cX0_give 62 = .ok (.aload_n 0, 1) := by decide +kernel
theorem dX0_give_63 : decode cX0_give 63 = .ok (.getfield 22, 3) := by decide +kernel
theorem dX0_give_66 : decode cX0_give 66 = .ok (.iload_n 2, 1) := by decide +kernel
theorem dX0_give_67 : decode cX0_give 67 = .ok (.iastore, 1) := by decide +kernel
theorem dX0_give_68 : decode cX0_give 68 = .ok (.aload_n 0, 1) := by decide +kernel
theorem dX0_give_69 : decode cX0_give 69 = .ok (.dup, 1) := by decide +kernel
theorem dX0_give_70 : decode cX0_give 70 = .ok (.getfield 22, 3) := by decide +kernel
theorem dX0_give_73 : decode cX0_give 73 = .ok (.iconst 1, 1) := by decide +kernel
theorem dX0_give_74 : decode cX0_give 74 = .ok (.iadd, 1) := by decide +kernel
theorem dX0_give_75 : decode cX0_give 75 = .ok (.putfield 22, 3) := by decide +kernel
theorem dX0_give_78 : decode cX0_give 78 = .ok (.return_, 1) := by decide +kernel
theorem dX0_unitPrice_0 : decode cX0_unitPrice 0 = .ok (.aload_n 0, 1) := by decide +kernel
theorem dX0_unitPrice_1 : decode cX0_unitPrice 1 = .ok (.getfield 35, 3) := by decide +kernel
theorem dX0_unitPrice_4 : decode cX0_unitPrice 4 = .ok (.iload_n 1, 1) := by decide +kernel
theorem dX0_unitPrice_5 : decode cX0_unitPrice 5 = .ok (.bipush 8, 2) := by decide +kernel
theorem dX0_unitPrice_7 : decode cX0_unitPrice 7 = .ok (.imul, 1) := by decide +kernel
theorem dX0_unitPrice_8 : decode cX0_unitPrice 8 = .ok (.iload_n 2, 1) := by decide +kernel
theorem dX0_unitPrice_9 : decode cX0_unitPrice 9 = .ok (.iadd, 1) := by decide +kernel
theorem dX0_unitPrice_10 : decode cX0_unitPrice 10 = .ok (.iaload, 1) := by decide +kernel
theorem dX0_unitPrice_11 : decode cX0_unitPrice 11 = .ok (.ireturn, 1) := by decide +kernel
theorem dX0_unsold_0 : decode cX0_unsold 0 = .ok (.aload_n 0, 1) := by decide +kernel
theorem dX0_unsold_1 : decode cX0_unsold 1 = .ok (.getfield 12, 3) := by decide +kernel
theorem dX0_unsold_4 : decode cX0_unsold 4 = .ok (.getfield 73, 3) := by decide +kernel
theorem dX0_unsold_7 : decode cX0_unsold 7 = .ok (.aload_n 0, 1) := by decide +kernel
theorem dX0_unsold_8 : decode cX0_unsold 8 = .ok (.getfield 22, 3) := by decide +kernel
theorem dX0_unsold_11 : decode cX0_unsold 11 = .ok (.isub, 1) := by decide +kernel
theorem dX0_unsold_12 : decode cX0_unsold 12 = .ok (.ireturn, 1) := by decide +kernel
theorem dX0_valueOfUnits_0 : decode cX0_valueOfUnits 0 = .ok (.aload_n 0, 1) := by decide +kernel
theorem dX0_valueOfUnits_1 : decode cX0_valueOfUnits 1 = .ok (.getfield 12, 3) := by decide +kernel
theorem dX0_valueOfUnits_4 : decode cX0_valueOfUnits 4 = .ok (.iload_n 1, 1) := by decide +kernel
theorem dX0_valueOfUnits_5 : decode cX0_valueOfUnits 5 = .ok (.aload_n 0, 1) := by decide +kernel
theorem dX0_valueOfUnits_6 : decode cX0_valueOfUnits 6 = .ok (.getfield 28, 3) := by decide +kernel
theorem dX0_valueOfUnits_9 : decode cX0_valueOfUnits 9 = .ok (.iload_n 1, 1) := by decide +kernel
theorem dX0_valueOfUnits_10 : decode cX0_valueOfUnits 10 = .ok (.iaload, 1) := by decide +kernel
theorem dX0_valueOfUnits_11 : decode cX0_valueOfUnits 11 = .ok (.invokevirtual 101, 3) := by decide +kernel
theorem dX0_valueOfUnits_14 : decode cX0_valueOfUnits 14 = .ok (.ireturn, 1) := by decide +kernel
theorem dX0_clinchedBy_0 : decode cX0_clinchedBy 0 = .ok (.iconst 0, 1) := by decide +kernel
theorem dX0_clinchedBy_1 : decode cX0_clinchedBy 1 = .ok (.istore_n 3, 1) := by decide +kernel
theorem dX0_clinchedBy_2 : decode cX0_clinchedBy 2 = .ok (.iload_n 3, 1) := by decide +kernel
theorem dX0_clinchedBy_3 : decode cX0_clinchedBy 3 = .ok (.aload_n 0, 1) := by decide +kernel
theorem dX0_clinchedBy_4 : decode cX0_clinchedBy 4 = .ok (.getfield 32, 3) := by decide +kernel
theorem dX0_clinchedBy_7 : decode cX0_clinchedBy 7 = .ok (.iload_n 1, 1) := by decide +kernel
theorem dX0_clinchedBy_8 : decode cX0_clinchedBy 8 = .ok (.iaload, 1) := by decide +kernel
theorem dX0_clinchedBy_9 : decode cX0_clinchedBy 9 = .ok (.if_icmp .ge 19, 3) := by decide +kernel
theorem dX0_clinchedBy_12 : decode cX0_clinchedBy 12 = .ok (.aload_n 0, 1) := by decide +kernel
theorem dX0_clinchedBy_13 : decode cX0_clinchedBy 13 = .ok (.iload_n 1, 1) := by decide +kernel
theorem dX0_clinchedBy_14 : decode cX0_clinchedBy 14 = .ok (.iload_n 3, 1) := by decide +kernel
theorem dX0_clinchedBy_15 : decode cX0_clinchedBy 15 = .ok (.invokevirtual 104, 3) := by decide +kernel
theorem dX0_clinchedBy_18 : decode cX0_clinchedBy 18 = .ok (.iload_n 2, 1) := by decide +kernel
theorem dX0_clinchedBy_19 : decode cX0_clinchedBy 19 = .ok (.if_icmp .gt 9, 3) := by decide +kernel
theorem dX0_clinchedBy_22 : decode cX0_clinchedBy 22 = .ok (.iinc 3 1, 3) := by decide +kernel
theorem dX0_clinchedBy_25 : decode cX0_clinchedBy 25 = .ok (.goto (-23), 3) := by decide +kernel
theorem dX0_clinchedBy_28 : decode cX0_clinchedBy 28 = .ok (.iload_n 3, 1) := by decide +kernel
theorem dX0_clinchedBy_29 : decode cX0_clinchedBy 29 = .ok (.ireturn, 1) := by decide +kernel
theorem dX0_clinchPrice_0 : decode cX0_clinchPrice 0 = .ok (.aload_n 0, 1) := by decide +kernel
theorem dX0_clinchPrice_1 : decode cX0_clinchPrice 1 = .ok (.iload_n 1, 1) := by decide +kernel
theorem dX0_clinchPrice_2 : decode cX0_clinchPrice 2 = .ok (.iload_n 2, 1) := by decide +kernel
theorem dX0_clinchPrice_3 : decode cX0_clinchPrice 3 = .ok (.invokevirtual 107, 3) := by decide +kernel
theorem dX0_clinchPrice_6 : decode cX0_clinchPrice 6 = .ok (.istore_n 3, 1) := by decide +kernel
theorem dX0_clinchPrice_7 : decode cX0_clinchPrice 7 = .ok (.iload_n 3, 1) := by decide +kernel
theorem dX0_clinchPrice_8 : decode cX0_clinchPrice 8 = .ok (.iconst (-1), 1) := by decide +kernel
theorem dX0_clinchPrice_9 : decode cX0_clinchPrice 9 = .ok (.if_icmp .ne 7, 3) := by decide +kernel
theorem dX0_clinchPrice_12 : decode cX0_clinchPrice 12 = .ok (.iconst (-1), 1) := by decide +kernel
theorem dX0_clinchPrice_13 : decode cX0_clinchPrice 13 = .ok (.goto 9, 3) := by decide +kernel
theorem dX0_clinchPrice_16 : decode cX0_clinchPrice 16 = .ok (.aload_n 0, 1) := by decide +kernel
theorem dX0_clinchPrice_17 : decode cX0_clinchPrice 17 = .ok (.iload_n 1, 1) := by decide +kernel
theorem dX0_clinchPrice_18 : decode cX0_clinchPrice 18 = .ok (.iload_n 3, 1) := by decide +kernel
theorem dX0_clinchPrice_19 : decode cX0_clinchPrice 19 = .ok (.invokevirtual 104, 3) := by decide +kernel
theorem dX0_clinchPrice_22 : decode cX0_clinchPrice 22 = .ok (.ireturn, 1) := by decide +kernel
theorem dX0_clinchSize_0 : decode cX0_clinchSize 0 = .ok (.aload_n 0, 1) := by decide +kernel
theorem dX0_clinchSize_1 : decode cX0_clinchSize 1 = .ok (.iload_n 1, 1) := by decide +kernel
theorem dX0_clinchSize_2 : decode cX0_clinchSize 2 = .ok (.iload_n 2, 1) := by decide +kernel
theorem dX0_clinchSize_3 : decode cX0_clinchSize 3 = .ok (.invokevirtual 107, 3) := by decide +kernel
theorem dX0_clinchSize_6 : decode cX0_clinchSize 6 = .ok (.istore_n 3, 1) := by decide +kernel
theorem dX0_clinchSize_7 : decode cX0_clinchSize 7 = .ok (.iload_n 3, 1) := by decide +kernel
theorem dX0_clinchSize_8 : decode cX0_clinchSize 8 = .ok (.iconst (-1), 1) := by decide +kernel
theorem dX0_clinchSize_9 : decode cX0_clinchSize 9 = .ok (.if_icmp .ne 7, 3) := by decide +kernel
theorem dX0_clinchSize_12 : decode cX0_clinchSize 12 = .ok (.iconst (-1), 1) := by decide +kernel
theorem dX0_clinchSize_13 : decode cX0_clinchSize 13 = .ok (.goto 16, 3) := by decide +kernel
theorem dX0_clinchSize_16 : decode cX0_clinchSize 16 = .ok (.aload_n 0, 1) := by decide +kernel
theorem dX0_clinchSize_17 : decode cX0_clinchSize 17 = .ok (.iload_n 1, 1) := by decide +kernel
theorem dX0_clinchSize_18 : decode cX0_clinchSize 18 = .ok (.aload_n 0, 1) := by decide +kernel
theorem dX0_clinchSize_19 : decode cX0_clinchSize 19 = .ok (.iload_n 1, 1) := by decide +kernel
theorem dX0_clinchSize_20 : decode cX0_clinchSize 20 = .ok (.iload_n 3, 1) := by decide +kernel
theorem dX0_clinchSize_21 : decode cX0_clinchSize 21 = .ok (.invokevirtual 104, 3) := by decide +kernel
theorem dX0_clinchSize_24 : decode cX0_clinchSize 24 = .ok (.invokevirtual 110, 3) := by decide +kernel
theorem dX0_clinchSize_27 : decode cX0_clinchSize 27 = .ok (.iload_n 3, 1) := by decide +kernel
theorem dX0_clinchSize_28 : decode cX0_clinchSize 28 = .ok (.isub, 1) := by decide +kernel
theorem dX0_clinchSize_29 : decode cX0_clinchSize 29 = .ok (.ireturn, 1) := by decide +kernel
theorem dX0_firstOfClinch_0 : decode cX0_firstOfClinch 0 = .ok (.iconst 0, 1) := by decide +kernel
theorem dX0_firstOfClinch_1 : decode cX0_firstOfClinch 1 = .ok (.istore_n 3, 1) := by decide +kernel
theorem dX0_firstOfClinch_2 : decode cX0_firstOfClinch 2 = .ok (.iconst 0, 1) := by decide +kernel
theorem dX0_firstOfClinch_3 : decode cX0_firstOfClinch 3 = .ok (.istore 4, 2) := by decide +kernel
theorem dX0_firstOfClinch_5 : decode cX0_firstOfClinch 5 = .ok (.iload 4, 2) := by decide +kernel
theorem dX0_firstOfClinch_7 : decode cX0_firstOfClinch 7 = .ok (.iload_n 2, 1) := by decide +kernel
theorem dX0_firstOfClinch_8 : decode cX0_firstOfClinch 8 = .ok (.if_icmp .ge 31, 3) := by decide +kernel
theorem dX0_firstOfClinch_11 : decode cX0_firstOfClinch 11 = .ok (.iload_n 3, 1) := by decide +kernel
theorem dX0_firstOfClinch_12 : decode cX0_firstOfClinch 12 = .ok (.aload_n 0, 1) := by decide +kernel
theorem dX0_firstOfClinch_13 : decode cX0_firstOfClinch 13 = .ok (.getfield 32, 3) := by decide +kernel
theorem dX0_firstOfClinch_16 : decode cX0_firstOfClinch 16 = .ok (.iload_n 1, 1) := by decide +kernel
theorem dX0_firstOfClinch_17 : decode cX0_firstOfClinch 17 = .ok (.iaload, 1) := by decide +kernel
theorem dX0_firstOfClinch_18 : decode cX0_firstOfClinch 18 = .ok (.if_icmp .ge 21, 3) := by decide +kernel
theorem dX0_firstOfClinch_21 : decode cX0_firstOfClinch 21 = .ok (.aload_n 0, 1) := by decide +kernel
theorem dX0_firstOfClinch_22 : decode cX0_firstOfClinch 22 = .ok (.iload_n 1, 1) := by decide +kernel
theorem dX0_firstOfClinch_23 : decode cX0_firstOfClinch 23 = .ok (.aload_n 0, 1) := by decide +kernel
theorem dX0_firstOfClinch_24 : decode cX0_firstOfClinch 24 = .ok (.iload_n 1, 1) := by decide +kernel
theorem dX0_firstOfClinch_25 : decode cX0_firstOfClinch 25 = .ok (.iload_n 3, 1) := by decide +kernel
theorem dX0_firstOfClinch_26 : decode cX0_firstOfClinch 26 = .ok (.invokevirtual 104, 3) := by decide +kernel
theorem dX0_firstOfClinch_29 : decode cX0_firstOfClinch 29 = .ok (.invokevirtual 110, 3) := by decide +kernel
theorem dX0_firstOfClinch_32 : decode cX0_firstOfClinch 32 = .ok (.istore_n 3, 1) := by decide +kernel
theorem dX0_firstOfClinch_33 : decode cX0_firstOfClinch 33 = .ok (.iinc 4 1, 3) := by decide +kernel
theorem dX0_firstOfClinch_36 : decode cX0_firstOfClinch 36 = .ok (.goto (-31), 3) := by decide +kernel
theorem dX0_firstOfClinch_39 : decode cX0_firstOfClinch 39 = .ok (.iload_n 3, 1) := by decide +kernel
theorem dX0_firstOfClinch_40 : decode cX0_firstOfClinch 40 = .ok (.aload_n 0, 1) := by decide +kernel
theorem dX0_firstOfClinch_41 : decode cX0_firstOfClinch 41 = .ok (.getfield 32, 3) := by decide +kernel
theorem dX0_firstOfClinch_44 : decode cX0_firstOfClinch 44 = .ok (.iload_n 1, 1) := by decide +kernel
theorem dX0_firstOfClinch_45 : decode cX0_firstOfClinch 45 = .ok (.iaload, 1) := by decide +kernel
theorem dX0_firstOfClinch_46 : decode cX0_firstOfClinch 46 = .ok (.if_icmp .ge 7, 3) := by decide +kernel
theorem dX0_firstOfClinch_49 : decode cX0_firstOfClinch 49 = .ok (.iload_n 3, 1) := by decide +kernel
theorem dX0_firstOfClinch_50 : decode cX0_firstOfClinch 50 = .ok (.goto 4, 3) := by decide +kernel
theorem dX0_firstOfClinch_53 : decode cX0_firstOfClinch 53 = .ok (.iconst (-1), 1) := by decide +kernel
theorem dX0_firstOfClinch_54 : decode cX0_firstOfClinch 54 = .ok (.ireturn, 1) := by decide +kernel
theorem dX0_payment_0 : decode cX0_payment 0 = .ok (.iload_n 2, 1) := by decide +kernel
theorem dX0_payment_1 : decode cX0_payment 1 = .ok (.tableswitch 51 0 2 #[27, 33, 45], 27) := by decide +kernel
theorem dX0_payment_28 : decode cX0_payment 28 = .ok (.aload_n 0, 1) := by decide +kernel
theorem dX0_payment_29 : decode cX0_payment 29 = .ok (.iload_n 1, 1) := by decide +kernel
theorem dX0_payment_30 : decode cX0_payment 30 = .ok (.invokevirtual 113, 3) := by decide +kernel
theorem dX0_payment_33 : decode cX0_payment 33 = .ok (.ireturn, 1) := by decide +kernel
theorem dX0_payment_34 : decode cX0_payment 34 = .ok (.aload_n 0, 1) := by decide +kernel
theorem dX0_payment_35 : decode cX0_payment 35 = .ok (.getfield 18, 3) := by decide +kernel
theorem dX0_payment_38 : decode cX0_payment 38 = .ok (.aload_n 0, 1) := by decide +kernel
theorem dX0_payment_39 : decode cX0_payment 39 = .ok (.getfield 28, 3) := by decide +kernel
theorem dX0_payment_42 : decode cX0_payment 42 = .ok (.iload_n 1, 1) := by decide +kernel
theorem dX0_payment_43 : decode cX0_payment 43 = .ok (.iaload, 1) := by decide +kernel
theorem dX0_payment_44 : decode cX0_payment 44 = .ok (.imul, 1) := by decide +kernel
theorem dX0_payment_45 : decode cX0_payment 45 = .ok (.ireturn, 1) := by decide +kernel
theorem dX0_payment_46 : decode cX0_payment 46 = .ok (.aload_n 0, 1) := by decide +kernel
theorem dX0_payment_47 : decode cX0_payment 47 = .ok (.iload_n 1, 1) := by decide +kernel
theorem dX0_payment_48 : decode cX0_payment 48 = .ok (.invokevirtual 116, 3) := by decide +kernel
theorem dX0_payment_51 : decode cX0_payment 51 = .ok (.ireturn, 1) := by decide +kernel
theorem dX0_payment_52 : decode cX0_payment 52 = .ok (.aload_n 0, 1) := by decide +kernel
theorem dX0_payment_53 : decode cX0_payment 53 = .ok (.iload_n 1, 1) := by decide +kernel
theorem dX0_payment_54 : decode cX0_payment 54 = .ok (.invokevirtual 119, 3) := by decide +kernel
theorem dX0_payment_57 : decode cX0_payment 57 = .ok (.ireturn, 1) := by decide +kernel
theorem dX0_sumOfPrices_0 : decode cX0_sumOfPrices 0 = .ok (.iconst 0, 1) := by decide +kernel
theorem dX0_sumOfPrices_1 : decode cX0_sumOfPrices 1 = .ok (.istore_n 2, 1) := by decide +kernel
theorem dX0_sumOfPrices_2 : decode cX0_sumOfPrices 2 = .ok (.iconst 0, 1) := by decide +kernel
theorem dX0_sumOfPrices_3 : decode cX0_sumOfPrices 3 = .ok (.istore_n 3, 1) := by decide +kernel
theorem dX0_sumOfPrices_4 : decode cX0_sumOfPrices 4 = .ok (.iload_n 3, 1) := by decide +kernel
theorem dX0_sumOfPrices_5 : decode cX0_sumOfPrices 5 = .ok (.aload_n 0, 1) := by decide +kernel
theorem dX0_sumOfPrices_6 : decode cX0_sumOfPrices 6 = .ok (.getfield 28, 3) := by decide +kernel
theorem dX0_sumOfPrices_9 : decode cX0_sumOfPrices 9 = .ok (.iload_n 1, 1) := by decide +kernel
theorem dX0_sumOfPrices_10 : decode cX0_sumOfPrices 10 = .ok (.iaload, 1) := by decide +kernel
theorem dX0_sumOfPrices_11 : decode cX0_sumOfPrices 11 = .ok (.if_icmp .ge 18, 3) := by decide +kernel
theorem dX0_sumOfPrices_14 : decode cX0_sumOfPrices 14 = .ok (.iload_n 2, 1) := by decide +kernel
theorem dX0_sumOfPrices_15 : decode cX0_sumOfPrices 15 = .ok (.aload_n 0, 1) := by decide +kernel
theorem dX0_sumOfPrices_16 : decode cX0_sumOfPrices 16 = .ok (.iload_n 1, 1) := by decide +kernel
theorem dX0_sumOfPrices_17 : decode cX0_sumOfPrices 17 = .ok (.iload_n 3, 1) := by decide +kernel
theorem dX0_sumOfPrices_18 : decode cX0_sumOfPrices 18 = .ok (.invokevirtual 104, 3) := by decide +kernel
theorem dX0_sumOfPrices_21 : decode cX0_sumOfPrices 21 = .ok (.iadd, 1) := by decide +kernel
theorem dX0_sumOfPrices_22 : decode cX0_sumOfPrices 22 = .ok (.istore_n 2, 1) := by decide +kernel
theorem dX0_sumOfPrices_23 : decode cX0_sumOfPrices 23 = .ok (.iinc 3 1, 3) := by decide +kernel
theorem dX0_sumOfPrices_26 : decode cX0_sumOfPrices 26 = .ok (.goto (-22), 3) := by decide +kernel
theorem dX0_sumOfPrices_29 : decode cX0_sumOfPrices 29 = .ok (.iload_n 2, 1) := by decide +kernel
theorem dX0_sumOfPrices_30 : decode cX0_sumOfPrices 30 = .ok (.ireturn, 1) := by decide +kernel
theorem dX0_harmBy_0 : decode cX0_harmBy 0 = .ok (.aload_n 0, 1) := by decide +kernel
theorem dX0_harmBy_1 : decode cX0_harmBy 1 = .ok (.getfield 12, 3) := by decide +kernel
theorem dX0_harmBy_4 : decode cX0_harmBy 4 = .ok (.invokevirtual 122, 3) := by decide +kernel
theorem dX0_harmBy_7 : decode cX0_harmBy 7 = .ok (.iconst 1, 1) := by decide +kernel
theorem dX0_harmBy_8 : decode cX0_harmBy 8 = .ok (.iload_n 1, 1) := by decide +kernel
theorem dX0_harmBy_9 : decode cX0_harmBy 9 = .ok (.ishl, 1) := by decide +kernel
theorem dX0_harmBy_10 : decode cX0_harmBy 10 = .ok (.iconst (-1), 1) := by decide +kernel
theorem dX0_harmBy_11 : decode cX0_harmBy 11 = .ok (.ixor, 1) := by decide +kernel
theorem dX0_harmBy_12 : decode cX0_harmBy 12 = .ok (.iand, 1) := by decide +kernel
theorem dX0_harmBy_13 : decode cX0_harmBy 13 = .ok (.istore_n 2, 1) := by decide +kernel
theorem dX0_harmBy_14 : decode cX0_harmBy 14 = .ok (.aload_n 0, 1) := by decide +kernel
theorem dX0_harmBy_15 : decode cX0_harmBy 15 = .ok (.invokevirtual 125, 3) := by decide +kernel
theorem dX0_harmBy_18 : decode cX0_harmBy 18 = .ok (.aload_n 0, 1) := by decide +kernel
theorem dX0_harmBy_19 : decode cX0_harmBy 19 = .ok (.iload_n 1, 1) := by decide +kernel
theorem dX0_harmBy_20 : decode cX0_harmBy 20 = .ok (.invokevirtual 116, 3) := by decide +kernel
theorem dX0_harmBy_23 : decode cX0_harmBy 23 = .ok (.isub, 1) := by decide +kernel
theorem dX0_harmBy_24 : decode cX0_harmBy 24 = .ok (.istore_n 3, 1) := by decide +kernel
theorem dX0_harmBy_25 : decode cX0_harmBy 25 = .ok (.aload_n 0, 1) := by decide +kernel
theorem dX0_harmBy_26 : decode cX0_harmBy 26 = .ok (.getfield 12, 3) := by decide +kernel
theorem dX0_harmBy_29 : decode cX0_harmBy 29 = .ok (.iload_n 2, 1) := by decide +kernel
theorem dX0_harmBy_30 : decode cX0_harmBy 30 = .ok (.aload_n 0, 1) := by decide +kernel
theorem dX0_harmBy_31 : decode cX0_harmBy 31 = .ok (.getfield 12, 3) := by decide +kernel
theorem dX0_harmBy_34 : decode cX0_harmBy 34 = .ok (.getfield 73, 3) := by decide +kernel
theorem dX0_harmBy_37 : decode cX0_harmBy 37 = .ok (.invokevirtual 128, 3) := by decide +kernel
theorem dX0_harmBy_40 : decode cX0_harmBy 40 = .ok (.iload_n 3, 1) := by decide +kernel
theorem dX0_harmBy_41 : decode cX0_harmBy 41 = .ok (.isub, 1) := by decide +kernel
theorem dX0_harmBy_42 : decode cX0_harmBy 42 = .ok (.aload_n 0, 1) := by decide +kernel
theorem dX0_harmBy_43 : decode cX0_harmBy 43 = .ok (.getfield 12, 3) := by decide +kernel
theorem dX0_harmBy_46 : decode cX0_harmBy 46 = .ok (.getfield 62, 3) := by decide +kernel
theorem dX0_harmBy_49 : decode cX0_harmBy 49 = .ok (.aload_n 0, 1) := by decide +kernel
theorem dX0_harmBy_50 : decode cX0_harmBy 50 = .ok (.invokevirtual 131, 3) := by decide +kernel
theorem dX0_harmBy_53 : decode cX0_harmBy 53 = .ok (.imul, 1) := by decide +kernel
theorem dX0_harmBy_54 : decode cX0_harmBy 54 = .ok (.isub, 1) := by decide +kernel
theorem dX0_harmBy_55 : decode cX0_harmBy 55 = .ok (.ireturn, 1) := by decide +kernel
theorem dX0_paidByAll_0 : decode cX0_paidByAll 0 = .ok (.iconst 0, 1) := by decide +kernel
theorem dX0_paidByAll_1 : decode cX0_paidByAll 1 = .ok (.istore_n 2, 1) := by decide +kernel
theorem dX0_paidByAll_2 : decode cX0_paidByAll 2 = .ok (.iconst 0, 1) := by decide +kernel
theorem dX0_paidByAll_3 : decode cX0_paidByAll 3 = .ok (.istore_n 3, 1) := by decide +kernel
theorem dX0_paidByAll_4 : decode cX0_paidByAll 4 = .ok (.iload_n 3, 1) := by decide +kernel
theorem dX0_paidByAll_5 : decode cX0_paidByAll 5 = .ok (.aload_n 0, 1) := by decide +kernel
theorem dX0_paidByAll_6 : decode cX0_paidByAll 6 = .ok (.getfield 12, 3) := by decide +kernel
theorem dX0_paidByAll_9 : decode cX0_paidByAll 9 = .ok (.getfield 50, 3) := by decide +kernel
theorem dX0_paidByAll_12 : decode cX0_paidByAll 12 = .ok (.if_icmp .ge 18, 3) := by decide +kernel
theorem dX0_paidByAll_15 : decode cX0_paidByAll 15 = .ok (.iload_n 2, 1) := by decide +kernel
theorem dX0_paidByAll_16 : decode cX0_paidByAll 16 = .ok (.aload_n 0, 1) := by decide +kernel
theorem dX0_paidByAll_17 : decode cX0_paidByAll 17 = .ok (.iload_n 3, 1) := by decide +kernel
theorem dX0_paidByAll_18 : decode cX0_paidByAll 18 = .ok (.iload_n 1, 1) := by decide +kernel
theorem dX0_paidByAll_19 : decode cX0_paidByAll 19 = .ok (.invokevirtual 134, 3) := by decide +kernel
theorem dX0_paidByAll_22 : decode cX0_paidByAll 22 = .ok (.iadd, 1) := by decide +kernel
theorem dX0_paidByAll_23 : decode cX0_paidByAll 23 = .ok (.istore_n 2, 1) := by decide +kernel
theorem dX0_paidByAll_24 : decode cX0_paidByAll 24 = .ok (.iinc 3 1, 3) := by decide +kernel
theorem dX0_paidByAll_27 : decode cX0_paidByAll 27 = .ok (.goto (-23), 3) := by decide +kernel
theorem dX0_paidByAll_30 : decode cX0_paidByAll 30 = .ok (.iload_n 2, 1) := by decide +kernel
theorem dX0_paidByAll_31 : decode cX0_paidByAll 31 = .ok (.ireturn, 1) := by decide +kernel
theorem dX0_gainOf_0 : decode cX0_gainOf 0 = .ok (.aload_n 0, 1) := by decide +kernel
theorem dX0_gainOf_1 : decode cX0_gainOf 1 = .ok (.iload_n 1, 1) := by decide +kernel
theorem dX0_gainOf_2 : decode cX0_gainOf 2 = .ok (.invokevirtual 116, 3) := by decide +kernel
theorem dX0_gainOf_5 : decode cX0_gainOf 5 = .ok (.aload_n 0, 1) := by decide +kernel
theorem dX0_gainOf_6 : decode cX0_gainOf 6 = .ok (.iload_n 1, 1) := by decide +kernel
theorem dX0_gainOf_7 : decode cX0_gainOf 7 = .ok (.iload_n 2, 1) := by decide +kernel
theorem dX0_gainOf_8 : decode cX0_gainOf 8 = .ok (.invokevirtual 134, 3) := by decide +kernel
theorem dX0_gainOf_11 : decode cX0_gainOf 11 = .ok (.isub, 1) := by decide +kernel
theorem dX0_gainOf_12 : decode cX0_gainOf 12 = .ok (.ireturn, 1) := by decide +kernel
theorem dX0_reckonGains_0 : decode cX0_reckonGains 0 = .ok (.iconst 0, 1) := by decide +kernel
theorem dX0_reckonGains_1 : decode cX0_reckonGains 1 = .ok (.istore_n 2, 1) := by decide +kernel
theorem dX0_reckonGains_2 : decode cX0_reckonGains 2 = .ok (.iload_n 2, 1) := by decide +kernel
theorem dX0_reckonGains_3 : decode cX0_reckonGains 3 = .ok (.aload_n 0, 1) := by decide +kernel
theorem dX0_reckonGains_4 : decode cX0_reckonGains 4 = .ok (.getfield 12, 3) := by decide +kernel
theorem dX0_reckonGains_7 : decode cX0_reckonGains 7 = .ok (.getfield 50, 3) := by decide +kernel
theorem dX0_reckonGains_10 : decode cX0_reckonGains 10 = .ok (.if_icmp .ge 21, 3) := by decide +kernel
theorem dX0_reckonGains_13 : decode cX0_reckonGains 13 = .ok (.aload_n 0, 1) := by decide +kernel
theorem dX0_reckonGains_14 : decode cX0_reckonGains 14 = .ok (.getfield 47, 3) := by decide +kernel
theorem dX0_reckonGains_17 : decode cX0_reckonGains 17 = .ok (.iload_n 2, 1) := by decide +kernel
theorem dX0_reckonGains_18 : decode cX0_reckonGains 18 = .ok (.aload_n 0, 1) := by decide +kernel
theorem dX0_reckonGains_19 : decode cX0_reckonGains 19 = .ok (.iload_n 2, 1) := by decide +kernel
theorem dX0_reckonGains_20 : decode cX0_reckonGains 20 = .ok (.iload_n 1, 1) := by decide +kernel
theorem dX0_reckonGains_21 : decode cX0_reckonGains 21 = .ok (.invokevirtual 137, 3) := by decide +kernel
theorem dX0_reckonGains_24 : decode cX0_reckonGains 24 = .ok (.iastore, 1) := by decide +kernel
theorem dX0_reckonGains_25 : decode cX0_reckonGains 25 = .ok (.iinc 2 1, 3) := by decide +kernel
theorem dX0_reckonGains_28 : decode cX0_reckonGains 28 = .ok (.goto (-26), 3) := by decide +kernel
theorem dX0_reckonGains_31 : decode cX0_reckonGains 31 = .ok (.return_, 1) := by decide +kernel
theorem dX0_gainOfSet_0 : decode cX0_gainOfSet 0 = .ok (.iconst 0, 1) := by decide +kernel
theorem dX0_gainOfSet_1 : decode cX0_gainOfSet 1 = .ok (.istore_n 2, 1) := by decide +kernel
theorem dX0_gainOfSet_2 : decode cX0_gainOfSet 2 = .ok (.iconst 0, 1) := by decide +kernel
theorem dX0_gainOfSet_3 : decode cX0_gainOfSet 3 = .ok (.istore_n 3, 1) := by decide +kernel
theorem dX0_gainOfSet_4 : decode cX0_gainOfSet 4 = .ok (.iload_n 3, 1) := by decide +kernel
theorem dX0_gainOfSet_5 : decode cX0_gainOfSet 5 = .ok (.aload_n 0, 1) := by decide +kernel
theorem dX0_gainOfSet_6 : decode cX0_gainOfSet 6 = .ok (.getfield 12, 3) := by decide +kernel
theorem dX0_gainOfSet_9 : decode cX0_gainOfSet 9 = .ok (.getfield 50, 3) := by decide +kernel
theorem dX0_gainOfSet_12 : decode cX0_gainOfSet 12 = .ok (.if_icmp .ge 27, 3) := by decide +kernel
theorem dX0_gainOfSet_15 : decode cX0_gainOfSet 15 = .ok (.iload_n 1, 1) := by decide +kernel
theorem dX0_gainOfSet_16 : decode cX0_gainOfSet 16 = .ok (.iload_n 3, 1) := by decide +kernel
theorem dX0_gainOfSet_17 : decode cX0_gainOfSet 17 = .ok (.ishr, 1) := by decide +kernel
theorem dX0_gainOfSet_18 : decode cX0_gainOfSet 18 = .ok (.iconst 1, 1) := by decide +kernel
theorem dX0_gainOfSet_19 : decode cX0_gainOfSet 19 = .ok (.iand, 1) := by decide +kernel
theorem dX0_gainOfSet_20 : decode cX0_gainOfSet 20 = .ok (.iconst 1, 1) := by decide +kernel
theorem dX0_gainOfSet_21 : decode cX0_gainOfSet 21 = .ok (.if_icmp .ne 12, 3) := by decide +kernel
theorem dX0_gainOfSet_24 : decode cX0_gainOfSet 24 = .ok (.iload_n 2, 1) := by decide +kernel
theorem dX0_gainOfSet_25 : decode cX0_gainOfSet 25 = .ok (.aload_n 0, 1) := by decide +kernel
theorem dX0_gainOfSet_26 : decode cX0_gainOfSet 26 = .ok (.getfield 47, 3) := by decide +kernel
theorem dX0_gainOfSet_29 : decode cX0_gainOfSet 29 = .ok (.iload_n 3, 1) := by decide +kernel
theorem dX0_gainOfSet_30 : decode cX0_gainOfSet 30 = .ok (.iaload, 1) := by decide +kernel
theorem dX0_gainOfSet_31 : decode cX0_gainOfSet 31 = .ok (.iadd, 1) := by decide +kernel
theorem dX0_gainOfSet_32 : decode cX0_gainOfSet 32 = .ok (.istore_n 2, 1) := by decide +kernel
theorem dX0_gainOfSet_33 : decode cX0_gainOfSet 33 = .ok (.iinc 3 1, 3) := by decide +kernel
theorem dX0_gainOfSet_36 : decode cX0_gainOfSet 36 = .ok (.goto (-32), 3) := by decide +kernel
theorem dX0_gainOfSet_39 : decode cX0_gainOfSet 39 = .ok (.iload_n 2, 1) := by decide +kernel
theorem dX0_gainOfSet_40 : decode cX0_gainOfSet 40 = .ok (.ireturn, 1) := by decide +kernel
theorem dX0_valueOfAllUnits_0 : decode cX0_valueOfAllUnits 0 = .ok (.iconst 0, 1) := by decide +kernel
theorem dX0_valueOfAllUnits_1 : decode cX0_valueOfAllUnits 1 = .ok (.istore_n 1, 1) := by decide +kernel
theorem dX0_valueOfAllUnits_2 : decode cX0_valueOfAllUnits 2 = .ok (.iconst 0, 1) := by decide +kernel
theorem dX0_valueOfAllUnits_3 : decode cX0_valueOfAllUnits 3 = .ok (.istore_n 2, 1) := by decide +kernel
theorem dX0_valueOfAllUnits_4 : decode cX0_valueOfAllUnits 4 = .ok (.iload_n 2, 1) := by decide +kernel
theorem dX0_valueOfAllUnits_5 : decode cX0_valueOfAllUnits 5 = .ok (.aload_n 0, 1) := by decide +kernel
theorem dX0_valueOfAllUnits_6 : decode cX0_valueOfAllUnits 6 = .ok (.getfield 12, 3) := by decide +kernel
theorem dX0_valueOfAllUnits_9 : decode cX0_valueOfAllUnits 9 = .ok (.getfield 50, 3) := by decide +kernel
theorem dX0_valueOfAllUnits_12 : decode cX0_valueOfAllUnits 12 = .ok (.if_icmp .ge 26, 3) := by decide +kernel
theorem dX0_valueOfAllUnits_15 : decode cX0_valueOfAllUnits 15 = .ok (.iload_n 1, 1) := by decide +kernel
theorem dX0_valueOfAllUnits_16 : decode cX0_valueOfAllUnits 16 = .ok (.aload_n 0, 1) := by decide +kernel
theorem dX0_valueOfAllUnits_17 : decode cX0_valueOfAllUnits 17 = .ok (.getfield 12, 3) := by decide +kernel
theorem dX0_valueOfAllUnits_20 : decode cX0_valueOfAllUnits 20 = .ok (.iload_n 2, 1) := by decide +kernel
theorem dX0_valueOfAllUnits_21 : decode cX0_valueOfAllUnits 21 = .ok (.aload_n 0, 1) := by decide +kernel
theorem dX0_valueOfAllUnits_22 : decode cX0_valueOfAllUnits 22 = .ok (.getfield 28, 3) := by decide +kernel
theorem dX0_valueOfAllUnits_25 : decode cX0_valueOfAllUnits 25 = .ok (.iload_n 2, 1) := by decide +kernel
theorem dX0_valueOfAllUnits_26 : decode cX0_valueOfAllUnits 26 = .ok (.iaload, 1) := by decide +kernel
theorem dX0_valueOfAllUnits_27 : decode cX0_valueOfAllUnits 27 = .ok (.invokevirtual 101, 3) := by decide +kernel
theorem dX0_valueOfAllUnits_30 : decode cX0_valueOfAllUnits 30 = .ok (.iadd, 1) := by decide +kernel
theorem dX0_valueOfAllUnits_31 : decode cX0_valueOfAllUnits 31 = .ok (.istore_n 1, 1) := by decide +kernel
theorem dX0_valueOfAllUnits_32 : decode cX0_valueOfAllUnits 32 = .ok (.iinc 2 1, 3) := by decide +kernel
theorem dX0_valueOfAllUnits_35 : decode cX0_valueOfAllUnits 35 = .ok (.goto (-31), 3) := by decide +kernel
theorem dX0_valueOfAllUnits_38 : decode cX0_valueOfAllUnits 38 = .ok (.iload_n 1, 1) := by decide +kernel
theorem dX0_valueOfAllUnits_39 : decode cX0_valueOfAllUnits 39 = .ok (.ireturn, 1) := by decide +kernel
theorem dX0_tell_0 : decode cX0_tell 0 = .ok (.iload_n 1, 1) := by decide +kernel
theorem dX0_tell_1 : decode cX0_tell 1 = .ok (.tableswitch 155 0 9 #[55, 60, 65, 70, 75, 80, 85, 107, 112, 136], 55) := by decide +kernel
theorem dX0_tell_56 : decode cX0_tell 56 = .ok (.aload_n 0, 1) := by decide +kernel
theorem dX0_tell_57 : decode cX0_tell 57 = .ok (.getfield 18, 3) := by decide +kernel
theorem dX0_tell_60 : decode cX0_tell 60 = .ok (.ireturn, 1) := by decide +kernel
theorem dX0_tell_61 : decode cX0_tell 61 = .ok (.aload_n 0, 1) := by decide +kernel
theorem dX0_tell_62 : decode cX0_tell 62 = .ok (.getfield 22, 3) := by decide +kernel
theorem dX0_tell_65 : decode cX0_tell 65 = .ok (.ireturn, 1) := by decide +kernel
theorem dX0_tell_66 : decode cX0_tell 66 = .ok (.aload_n 0, 1) := by decide +kernel
theorem dX0_tell_67 : decode cX0_tell 67 = .ok (.invokevirtual 131, 3) := by decide +kernel
theorem dX0_tell_70 : decode cX0_tell 70 = .ok (.ireturn, 1) := by decide +kernel
theorem dX0_tell_71 : decode cX0_tell 71 = .ok (.aload_n 0, 1) := by decide +kernel
theorem dX0_tell_72 : decode cX0_tell 72 = .ok (.getfield 25, 3) := by decide +kernel
theorem dX0_tell_75 : decode cX0_tell 75 = .ok (.ireturn, 1) := by decide +kernel
theorem dX0_tell_76 : decode cX0_tell 76 = .ok (.aload_n 0, 1) := by decide +kernel
theorem dX0_tell_77 : decode cX0_tell 77 = .ok (.invokevirtual 140, 3) := by decide +kernel
theorem dX0_tell_80 : decode cX0_tell 80 = .ok (.ireturn, 1) := by decide +kernel
theorem dX0_tell_81 : decode cX0_tell 81 = .ok (.aload_n 0, 1) := by decide +kernel
theorem dX0_tell_82 : decode cX0_tell 82 = .ok (.invokevirtual 125, 3) := by decide +kernel
theorem dX0_tell_85 : decode cX0_tell 85 = .ok (.ireturn, 1) := by decide +kernel
theorem dX0_tell_86 : decode cX0_tell 86 = .ok (.aload_n 0, 1) := by decide +kernel
theorem dX0_tell_87 : decode cX0_tell 87 = .ok (.getfield 12, 3) := by decide +kernel
theorem dX0_tell_90 : decode cX0_tell 90 = .ok (.aload_n 0, 1) := by decide +kernel
theorem dX0_tell_91 : decode cX0_tell 91 = .ok (.getfield 12, 3) := by decide +kernel
theorem dX0_tell_94 : decode cX0_tell 94 = .ok (.invokevirtual 122, 3) := by decide +kernel
theorem dX0_tell_97 : decode cX0_tell 97 = .ok (.aload_n 0, 1) := by decide +kernel
theorem dX0_tell_98 : decode cX0_tell 98 = .ok (.getfield 12, 3) := by decide +kernel
theorem dX0_tell_101 : decode cX0_tell 101 = .ok (.getfield 73, 3) := by decide +kernel
theorem dX0_tell_104 : decode cX0_tell 104 = .ok (.invokevirtual 128, 3) := by decide +kernel
theorem dX0_tell_107 : decode cX0_tell 107 = .ok (.ireturn, 1) := by decide +kernel
theorem dX0_tell_108 : decode cX0_tell 108 = .ok (.aload_n 0, 1) := by decide +kernel
theorem dX0_tell_109 : decode cX0_tell 109 = .ok (.invokevirtual 143, 3) := by decide +kernel
theorem dX0_tell_112 : decode cX0_tell 112 = .ok (.ireturn, 1) := by decide +kernel
theorem dX0_tell_113 : decode cX0_tell 113 = .ok (.aload_n 0, 1) := by decide +kernel
theorem dX0_tell_114 : decode cX0_tell 114 = .ok (.getfield 22, 3) := by decide +kernel
theorem dX0_tell_117 : decode cX0_tell 117 = .ok (.ifCond .ne 8, 3) := by decide +kernel
theorem dX0_tell_120 : decode cX0_tell 120 = .ok (.bipush (-2), 2) := by decide +kernel
theorem dX0_tell_122 : decode cX0_tell 122 = .ok (.goto 14, 3) := by decide +kernel
theorem dX0_tell_125 : decode cX0_tell 125 = .ok (.aload_n 0, 1) := by decide +kernel
theorem dX0_tell_126 : decode cX0_tell 126 = .ok (.getfield 41, 3) := by decide +kernel
theorem dX0_tell_129 : decode cX0_tell 129 = .ok (.aload_n 0, 1) := by decide +kernel
theorem dX0_tell_130 : decode cX0_tell 130 = .ok (.getfield 22, 3) := by decide +kernel
theorem dX0_tell_133 : decode cX0_tell 133 = .ok (.iconst 1, 1) := by decide +kernel
theorem dX0_tell_134 : decode cX0_tell 134 = .ok (.isub, 1) := by decide +kernel
theorem dX0_tell_135 : decode cX0_tell 135 = .ok (.iaload, 1) := by decide +kernel
theorem dX0_tell_136 : decode cX0_tell 136 = .ok (.ireturn, 1) := by decide +kernel
theorem dX0_tell_137 : decode cX0_tell 137 = .ok (.aload_n 0, 1) := by decide +kernel
theorem dX0_tell_138 : decode cX0_tell 138 = .ok (.getfield 22, 3) := by decide +kernel
theorem dX0_tell_141 : decode cX0_tell 141 = .ok (.ifCond .ne 8, 3) := by decide +kernel
theorem dX0_tell_144 : decode cX0_tell 144 = .ok (.bipush (-2), 2) := by decide +kernel
theorem dX0_tell_146 : decode cX0_tell 146 = .ok (.goto 9, 3) := by decide +kernel
theorem dX0_tell_149 : decode cX0_tell 149 = .ok (.aload_n 0, 1) := by decide +kernel
theorem dX0_tell_150 : decode cX0_tell 150 = .ok (.getfield 41, 3) := by decide +kernel
theorem dX0_tell_153 : decode cX0_tell 153 = .ok (.iconst 0, 1) := by decide +kernel
theorem dX0_tell_154 : decode cX0_tell 154 = .ok (.iaload, 1) := by decide +kernel
theorem dX0_tell_155 : decode cX0_tell 155 = .ok (.ireturn, 1) := by decide +kernel
theorem dX0_tell_156 : decode cX0_tell 156 = .ok (.iconst (-1), 1) := by decide +kernel
theorem dX0_tell_157 : decode cX0_tell 157 = .ok (.ireturn, 1) := by decide +kernel
theorem dX0_biddersWithUnits_0 : decode cX0_biddersWithUnits 0 = .ok (.iconst 0, 1) := by decide +kernel
theorem dX0_biddersWithUnits_1 : decode cX0_biddersWithUnits 1 = .ok (.istore_n 1, 1) := by decide +kernel
theorem dX0_biddersWithUnits_2 : decode cX0_biddersWithUnits 2 = .ok (.iconst 0, 1) := by decide +kernel
theorem dX0_biddersWithUnits_3 : decode cX0_biddersWithUnits 3 = .ok (.istore_n 2, 1) := by decide +kernel
theorem dX0_biddersWithUnits_4 : decode cX0_biddersWithUnits 4 = .ok (.iload_n 2, 1) := by decide +kernel
theorem dX0_biddersWithUnits_5 : decode cX0_biddersWithUnits 5 = .ok (.aload_n 0, 1) := by decide +kernel
theorem dX0_biddersWithUnits_6 : decode cX0_biddersWithUnits 6 = .ok (.getfield 12, 3) := by decide +kernel
theorem dX0_biddersWithUnits_9 : decode cX0_biddersWithUnits 9 = .ok (.getfield 50, 3) := by decide +kernel
theorem dX0_biddersWithUnits_12 : decode cX0_biddersWithUnits 12 = .ok (.if_icmp .ge 21, 3) := by decide +kernel
theorem dX0_biddersWithUnits_15 : decode cX0_biddersWithUnits 15 = .ok (.aload_n 0, 1) := by decide +kernel
theorem dX0_biddersWithUnits_16 : decode cX0_biddersWithUnits 16 = .ok (.getfield 28, 3) := by decide +kernel
theorem dX0_biddersWithUnits_19 : decode cX0_biddersWithUnits 19 = .ok (.iload_n 2, 1) := by decide +kernel
theorem dX0_biddersWithUnits_20 : decode cX0_biddersWithUnits 20 = .ok (.iaload, 1) := by decide +kernel
theorem dX0_biddersWithUnits_21 : decode cX0_biddersWithUnits 21 = .ok (.ifCond .le 6, 3) := by decide +kernel
theorem dX0_biddersWithUnits_24 : decode cX0_biddersWithUnits 24 = .ok (.iinc 1 1, 3) := by decide +kernel
theorem dX0_biddersWithUnits_27 : decode cX0_biddersWithUnits 27 = .ok (.iinc 2 1, 3) := by decide +kernel
theorem dX0_biddersWithUnits_30 : decode cX0_biddersWithUnits 30 = .ok (.goto (-26), 3) := by decide +kernel
theorem dX0_biddersWithUnits_33 : decode cX0_biddersWithUnits 33 = .ok (.iload_n 1, 1) := by decide +kernel
theorem dX0_biddersWithUnits_34 : decode cX0_biddersWithUnits 34 = .ok (.ireturn, 1) := by decide +kernel
theorem dX0_clinchPrices_0 : decode cX0_clinchPrices 0 = .ok (.iconst 0, 1) := by decide +kernel
theorem dX0_clinchPrices_1 : decode cX0_clinchPrices 1 = .ok (.istore_n 1, 1) := by decide +kernel
theorem dX0_clinchPrices_2 : decode cX0_clinchPrices 2 = .ok (.iconst 0, 1) := by decide +kernel
theorem dX0_clinchPrices_3 : decode cX0_clinchPrices 3 = .ok (.istore_n 2, 1) := by decide +kernel
theorem dX0_clinchPrices_4 : decode cX0_clinchPrices 4 = .ok (.iload_n 2, 1) := by decide +kernel
theorem dX0_clinchPrices_5 : decode cX0_clinchPrices 5 = .ok (.aload_n 0, 1) := by decide +kernel
theorem dX0_clinchPrices_6 : decode cX0_clinchPrices 6 = .ok (.getfield 25, 3) := by decide +kernel
theorem dX0_clinchPrices_9 : decode cX0_clinchPrices 9 = .ok (.if_icmp .ge 33, 3) := by decide +kernel
theorem dX0_clinchPrices_12 : decode cX0_clinchPrices 12 = .ok (.iload_n 2, 1) := by decide +kernel
theorem dX0_clinchPrices_13 : decode cX0_clinchPrices 13 = .ok (.ifCond .eq 20, 3) := by decide +kernel
theorem dX0_clinchPrices_16 : decode cX0_clinchPrices 16 = .ok (.aload_n 0, 1) := by decide +kernel
theorem dX0_clinchPrices_17 : decode cX0_clinchPrices 17 = .ok (.getfield 41, 3) := by decide +kernel
theorem dX0_clinchPrices_20 : decode cX0_clinchPrices 20 = .ok (.iload_n 2, 1) := by decide +kernel
theorem dX0_clinchPrices_21 : decode cX0_clinchPrices 21 = .ok (.iaload, 1) := by decide +kernel
theorem dX0_clinchPrices_22 : decode cX0_clinchPrices 22 = .ok (.aload_n 0, 1) := by decide +kernel
theorem dX0_clinchPrices_23 : decode cX0_clinchPrices 23 = .ok (.getfield 41, 3) := by decide +kernel
theorem dX0_clinchPrices_26 : decode cX0_clinchPrices 26 = .ok (.iload_n 2, 1) := by decide +kernel
theorem dX0_clinchPrices_27 : decode cX0_clinchPrices 27 = .ok (.iconst 1, 1) := by decide +kernel
theorem dX0_clinchPrices_28 : decode cX0_clinchPrices 28 = .ok (.isub, 1) := by decide +kernel
theorem dX0_clinchPrices_29 : decode cX0_clinchPrices 29 = .ok (.iaload, 1) := by decide +kernel
theorem dX0_clinchPrices_30 : decode cX0_clinchPrices 30 = .ok (.if_icmp .eq 6, 3) := by decide +kernel
theorem dX0_clinchPrices_33 : decode cX0_clinchPrices 33 = .ok (.iinc 1 1, 3) := by decide +kernel
theorem dX0_clinchPrices_36 : decode cX0_clinchPrices 36 = .ok (.iinc 2 1, 3) := by decide +kernel
theorem dX0_clinchPrices_39 : decode cX0_clinchPrices 39 = .ok (.goto (-35), 3) := by decide +kernel
theorem dX0_clinchPrices_42 : decode cX0_clinchPrices 42 = .ok (.iload_n 1, 1) := by decide +kernel
theorem dX0_clinchPrices_43 : decode cX0_clinchPrices 43 = .ok (.ireturn, 1) := by decide +kernel
theorem dX1_init_0 : decode cX1_init 0 = .ok (.aload_n 0, 1) := by decide +kernel
theorem dX1_init_1 : decode cX1_init 1 = .ok (.invokespecial 3, 3) := by decide +kernel
theorem dX1_init_4 : decode cX1_init 4 = .ok (.aload_n 0, 1) := by decide +kernel
theorem dX1_init_5 : decode cX1_init 5 = .ok (.bipush 10, 2) := by decide +kernel
theorem dX1_init_7 : decode cX1_init 7 = .ok (.putfield 9, 3) := by decide +kernel
theorem dX1_init_10 : decode cX1_init 10 = .ok (.aload_n 0, 1) := by decide +kernel
theorem dX1_init_11 : decode cX1_init 11 = .ok (.iconst 0, 1) := by decide +kernel
theorem dX1_init_12 : decode cX1_init 12 = .ok (.putfield 15, 3) := by decide +kernel
theorem dX1_init_15 : decode cX1_init 15 = .ok (.aload_n 0, 1) := by decide +kernel
theorem dX1_init_16 : decode cX1_init 16 = .ok (.iconst 0, 1) := by decide +kernel
theorem dX1_init_17 : decode cX1_init 17 = .ok (.putfield 18, 3) := by decide +kernel
theorem dX1_init_20 : decode cX1_init 20 = .ok (.aload_n 0, 1) := by decide +kernel
theorem dX1_init_21 : decode cX1_init 21 = .ok (.bipush 9, 2) := by decide +kernel
theorem dX1_init_23 : decode cX1_init 23 = .ok (.newarray .int, 2) := by decide +kernel
theorem dX1_init_25 : decode cX1_init 25 = .ok (.putfield 21, 3) := by decide +kernel
theorem dX1_init_28 : decode cX1_init 28 = .ok (.aload_n 0, 1) := by decide +kernel
theorem dX1_init_29 : decode cX1_init 29 = .ok (.bipush 9, 2) := by decide +kernel
theorem dX1_init_31 : decode cX1_init 31 = .ok (.newarray .int, 2) := by decide +kernel
theorem dX1_init_33 : decode cX1_init 33 = .ok (.putfield 25, 3) := by decide +kernel
theorem dX1_init_36 : decode cX1_init 36 = .ok (.aload_n 0, 1) := by decide +kernel
theorem dX1_init_37 : decode cX1_init 37 = .ok (.bipush 72, 2) := by decide +kernel
theorem dX1_init_39 : decode cX1_init 39 = .ok (.newarray .int, 2) := by decide +kernel
theorem dX1_init_41 : decode cX1_init 41 = .ok (.putfield 28, 3) := by decide +kernel
theorem dX1_init_44 : decode cX1_init 44 = .ok (.aload_n 0, 1) := by decide +kernel
theorem dX1_init_45 : decode cX1_init 45 = .ok (.bipush 9, 2) := by decide +kernel
theorem dX1_init_47 : decode cX1_init 47 = .ok (.newarray .int, 2) := by decide +kernel
theorem dX1_init_49 : decode cX1_init 49 = .ok (.putfield 31, 3) := by decide +kernel
theorem dX1_init_52 : decode cX1_init 52 = .ok (.aload_n 0, 1) := by decide +kernel
theorem dX1_init_53 : decode cX1_init 53 = .ok (.bipush 9, 2) := by decide +kernel
theorem dX1_init_55 : decode cX1_init 55 = .ok (.newarray .int, 2) := by decide +kernel
theorem dX1_init_57 : decode cX1_init 57 = .ok (.putfield 34, 3) := by decide +kernel
theorem dX1_init_60 : decode cX1_init 60 = .ok (.return_, 1) := by decide +kernel
theorem dX1_restart_0 : decode cX1_restart 0 = .ok (.aload_n 0, 1) := by decide +kernel
theorem dX1_restart_1 : decode cX1_restart 1 = .ok (.bipush 10, 2) := by decide +kernel
theorem dX1_restart_3 : decode cX1_restart 3 = .ok (.putfield 9, 3) := by decide +kernel
theorem dX1_restart_6 : decode cX1_restart 6 = .ok (.aload_n 0, 1) := by decide +kernel
theorem dX1_restart_7 : decode cX1_restart 7 = .ok (.iconst 0, 1) := by decide +kernel
theorem dX1_restart_8 : decode cX1_restart 8 = .ok (.putfield 15, 3) := by decide +kernel
theorem dX1_restart_11 : decode cX1_restart 11 = .ok (.aload_n 0, 1) := by decide +kernel
theorem dX1_restart_12 : decode cX1_restart 12 = .ok (.iconst 0, 1) := by decide +kernel
theorem dX1_restart_13 : decode cX1_restart 13 = .ok (.putfield 18, 3) := by decide +kernel
theorem dX1_restart_16 : decode cX1_restart 16 = .ok (.return_, 1) := by decide +kernel
theorem dX1_takeFrom_0 : decode cX1_takeFrom 0 = .ok (.aload_n 0, 1) := by decide +kernel
theorem dX1_takeFrom_1 : decode cX1_takeFrom 1 = .ok (.aload_n 1, 1) := by decide +kernel
theorem dX1_takeFrom_2 : decode cX1_takeFrom 2 = .ok (.getfield 9, 3) := by decide +kernel
theorem dX1_takeFrom_5 : decode cX1_takeFrom 5 = .ok (.putfield 9, 3) := by decide +kernel
theorem dX1_takeFrom_8 : decode cX1_takeFrom 8 = .ok (.aload_n 0, 1) := by decide +kernel
theorem dX1_takeFrom_9 : decode cX1_takeFrom 9 = .ok (.aload_n 1, 1) := by decide +kernel
theorem dX1_takeFrom_10 : decode cX1_takeFrom 10 = .ok (.getfield 15, 3) := by decide +kernel
theorem dX1_takeFrom_13 : decode cX1_takeFrom 13 = .ok (.putfield 15, 3) := by decide +kernel
theorem dX1_takeFrom_16 : decode cX1_takeFrom 16 = .ok (.aload_n 0, 1) := by decide +kernel
theorem dX1_takeFrom_17 : decode cX1_takeFrom 17 = .ok (.aload_n 1, 1) := by decide +kernel
theorem dX1_takeFrom_18 : decode cX1_takeFrom 18 = .ok (.getfield 18, 3) := by decide +kernel
theorem dX1_takeFrom_21 : decode cX1_takeFrom 21 = .ok (.putfield 18, 3) := by decide +kernel
theorem dX1_takeFrom_24 : decode cX1_takeFrom 24 = .ok (.iconst 0, 1) := by decide +kernel
theorem dX1_takeFrom_25 : decode cX1_takeFrom 25 = .ok (.istore_n 2, 1) := by decide +kernel
theorem dX1_takeFrom_26 : decode cX1_takeFrom 26 = .ok (.iload_n 2, 1) := by decide +kernel
theorem dX1_takeFrom_27 : decode cX1_takeFrom 27 = .ok (.aload_n 0, 1) := by decide +kernel
theorem dX1_takeFrom_28 : decode cX1_takeFrom 28 = .ok (.getfield 18, 3) := by decide +kernel
theorem dX1_takeFrom_31 : decode cX1_takeFrom 31 = .ok (.if_icmp .ge 16, 3) := by decide +kernel
theorem dX1_takeFrom_34 : decode cX1_takeFrom 34 = .ok (.aload_n 0, 1) := by decide +kernel
theorem dX1_takeFrom_35 : decode cX1_takeFrom 35 = .ok (.iload_n 2, 1) := by decide +kernel
theorem dX1_takeFrom_36 : decode cX1_takeFrom 36 = .ok (.aload_n 1, 1) := by decide +kernel
theorem dX1_takeFrom_37 : decode cX1_takeFrom 37 = .ok (.iload_n 2, 1) := by decide +kernel
theorem dX1_takeFrom_38 : decode cX1_takeFrom 38 = .ok (.invokevirtual 37, 3) := by decide +kernel
theorem dX1_takeFrom_41 : decode cX1_takeFrom 41 = .ok (.iinc 2 1, 3) := by decide +kernel
theorem dX1_takeFrom_44 : decode cX1_takeFrom 44 = .ok (.goto (-18), 3) := by decide +kernel
theorem dX1_takeFrom_47 : decode cX1_takeFrom 47 = .ok (.return_, 1) := by decide +kernel
theorem dX1_storeIn_0 : decode cX1_storeIn 0 = .ok (.aload_n 1, 1) := by decide +kernel
theorem dX1_storeIn_1 : decode cX1_storeIn 1 = .ok (.iload_n 2, 1) := by decide +kernel
theorem dX1_storeIn_2 : decode cX1_storeIn 2 = .ok (.aload_n 0, 1) := by decide +kernel
theorem dX1_storeIn_3 : decode cX1_storeIn 3 = .ok (.getfield 9, 3) := by decide +kernel
theorem dX1_storeIn_6 : decode cX1_storeIn 6 = .ok (.iastore, 1) := by decide +kernel
theorem dX1_storeIn_7 : decode cX1_storeIn 7 = .ok (.aload_n 1, 1) := by decide +kernel
theorem dX1_storeIn_8 : decode cX1_storeIn 8 = .ok (.iload_n 2, 1) := by decide +kernel
theorem dX1_storeIn_9 : decode cX1_storeIn 9 = .ok (.iconst 1, 1) := by decide +kernel
theorem dX1_storeIn_10 : decode cX1_storeIn 10 = .ok (.iadd, 1) := by decide +kernel
theorem dX1_storeIn_11 : decode cX1_storeIn 11 = .ok (.aload_n 0, 1) := by decide +kernel
theorem dX1_storeIn_12 : decode cX1_storeIn 12 = .ok (.getfield 15, 3) := by decide +kernel
theorem dX1_storeIn_15 : decode cX1_storeIn 15 = .ok (.iastore, 1) := by decide +kernel
theorem dX1_storeIn_16 : decode cX1_storeIn 16 = .ok (.aload_n 1, 1) := by decide +kernel
theorem dX1_storeIn_17 : decode cX1_storeIn 17 = .ok (.iload_n 2, 1) := by decide +kernel
theorem dX1_storeIn_18 : decode cX1_storeIn 18 = .ok (.iconst 2, 1) := by decide +kernel
theorem dX1_storeIn_19 : decode cX1_storeIn 19 = .ok (.iadd, 1) := by decide +kernel
theorem dX1_storeIn_20 : decode cX1_storeIn 20 = .ok (.aload_n 0, 1) := by decide +kernel
theorem dX1_storeIn_21 : decode cX1_storeIn 21 = .ok (.getfield 18, 3) := by decide +kernel
theorem dX1_storeIn_24 : decode cX1_storeIn 24 = .ok (.iastore, 1) := by decide +kernel
theorem dX1_storeIn_25 : decode cX1_storeIn 25 = .ok (.aload_n 0, 1) := by decide +kernel
theorem dX1_storeIn_26 : decode cX1_storeIn 26 = .ok (.getfield 21, 3) := by decide +kernel
theorem dX1_storeIn_29 : decode cX1_storeIn 29 = .ok (.iconst 0, 1) := by decide +kernel
theorem dX1_storeIn_30 : decode cX1_storeIn 30 = .ok (.aload_n 1, 1) := by decide +kernel
theorem dX1_storeIn_31 : decode cX1_storeIn 31 = .ok (.iload_n 2, 1) := by decide +kernel
theorem dX1_storeIn_32 : decode cX1_storeIn 32 = .ok (.iconst 3, 1) := by decide +kernel
theorem dX1_storeIn_33 : decode cX1_storeIn 33 = .ok (.iadd, 1) := by decide +kernel
theorem dX1_storeIn_34 : decode cX1_storeIn 34 = .ok (.bipush 9, 2) := by decide +kernel
theorem dX1_storeIn_36 : decode cX1_storeIn 36 = .ok (.invokestatic 41, 3) := by decide +kernel
theorem dX1_storeIn_39 : decode cX1_storeIn 39 = .ok (.aload_n 0, 1) := by decide +kernel
theorem dX1_storeIn_40 : decode cX1_storeIn 40 = .ok (.getfield 25, 3) := by decide +kernel
theorem dX1_storeIn_43 : decode cX1_storeIn 43 = .ok (.iconst 0, 1) := by decide +kernel
theorem dX1_storeIn_44 : decode cX1_storeIn 44 = .ok (.aload_n 1, 1) := by decide +kernel
theorem dX1_storeIn_45 : decode cX1_storeIn 45 = .ok (.iload_n 2, 1) := by decide +kernel
theorem dX1_storeIn_46 : decode cX1_storeIn 46 = .ok (.iconst 3, 1) := by decide +kernel
theorem dX1_storeIn_47 : decode cX1_storeIn 47 = .ok (.iadd, 1) := by decide +kernel
theorem dX1_storeIn_48 : decode cX1_storeIn 48 = .ok (.bipush 9, 2) := by decide +kernel
theorem dX1_storeIn_50 : decode cX1_storeIn 50 = .ok (.iadd, 1) := by decide +kernel
theorem dX1_storeIn_51 : decode cX1_storeIn 51 = .ok (.bipush 9, 2) := by decide +kernel
theorem dX1_storeIn_53 : decode cX1_storeIn 53 = .ok (.invokestatic 41, 3) := by decide +kernel
theorem dX1_storeIn_56 : decode cX1_storeIn 56 = .ok (.aload_n 0, 1) := by decide +kernel
theorem dX1_storeIn_57 : decode cX1_storeIn 57 = .ok (.getfield 28, 3) := by decide +kernel
theorem dX1_storeIn_60 : decode cX1_storeIn 60 = .ok (.iconst 0, 1) := by decide +kernel
theorem dX1_storeIn_61 : decode cX1_storeIn 61 = .ok (.aload_n 1, 1) := by decide +kernel
theorem dX1_storeIn_62 : decode cX1_storeIn 62 = .ok (.iload_n 2, 1) := by decide +kernel
theorem dX1_storeIn_63 : decode cX1_storeIn 63 = .ok (.iconst 3, 1) := by decide +kernel
theorem dX1_storeIn_64 : decode cX1_storeIn 64 = .ok (.iadd, 1) := by decide +kernel
theorem dX1_storeIn_65 : decode cX1_storeIn 65 = .ok (.bipush 9, 2) := by decide +kernel
theorem dX1_storeIn_67 : decode cX1_storeIn 67 = .ok (.iadd, 1) := by decide +kernel
theorem dX1_storeIn_68 : decode cX1_storeIn 68 = .ok (.bipush 9, 2) := by decide +kernel
theorem dX1_storeIn_70 : decode cX1_storeIn 70 = .ok (.iadd, 1) := by decide +kernel
theorem dX1_storeIn_71 : decode cX1_storeIn 71 = .ok (.bipush 72, 2) := by decide +kernel
theorem dX1_storeIn_73 : decode cX1_storeIn 73 = .ok (.invokestatic 41, 3) := by decide +kernel
theorem dX1_storeIn_76 : decode cX1_storeIn 76 = .ok (.return_, 1) := by decide +kernel
theorem dX1_loadFrom_0 : decode cX1_loadFrom 0 = .ok (.aload_n 0, 1) := by decide +kernel
theorem dX1_loadFrom_1 : decode cX1_loadFrom 1 = .ok (.aload_n 1, 1) := by decide +kernel
theorem dX1_loadFrom_2 : decode cX1_loadFrom 2 = .ok (.iload_n 2, 1) := by decide +kernel
theorem dX1_loadFrom_3 : decode cX1_loadFrom 3 = .ok (.iaload, 1) := by decide +kernel
theorem dX1_loadFrom_4 : decode cX1_loadFrom 4 = .ok (.putfield 9, 3) := by decide +kernel
theorem dX1_loadFrom_7 : decode cX1_loadFrom 7 = .ok (.aload_n 0, 1) := by decide +kernel
theorem dX1_loadFrom_8 : decode cX1_loadFrom 8 = .ok (.aload_n 1, 1) := by decide +kernel
theorem dX1_loadFrom_9 : decode cX1_loadFrom 9 = .ok (.iload_n 2, 1) := by decide +kernel
theorem dX1_loadFrom_10 : decode cX1_loadFrom 10 = .ok (.iconst 1, 1) := by decide +kernel
theorem dX1_loadFrom_11 : decode cX1_loadFrom 11 = .ok (.iadd, 1) := by decide +kernel
theorem dX1_loadFrom_12 : decode cX1_loadFrom 12 = .ok (.iaload, 1) := by decide +kernel
theorem dX1_loadFrom_13 : decode cX1_loadFrom 13 = .ok (.putfield 15, 3) := by decide +kernel
theorem dX1_loadFrom_16 : decode cX1_loadFrom 16 = .ok (.aload_n 0, 1) := by decide +kernel
theorem dX1_loadFrom_17 : decode cX1_loadFrom 17 = .ok (.aload_n 1, 1) := by decide +kernel
theorem dX1_loadFrom_18 : decode cX1_loadFrom 18 = .ok (.iload_n 2, 1) := by decide +kernel
theorem dX1_loadFrom_19 : decode cX1_loadFrom 19 = .ok (.iconst 2, 1) := by decide +kernel
theorem dX1_loadFrom_20 : decode cX1_loadFrom 20 = .ok (.iadd, 1) := by decide +kernel
theorem dX1_loadFrom_21 : decode cX1_loadFrom 21 = .ok (.iaload, 1) := by decide +kernel
theorem dX1_loadFrom_22 : decode cX1_loadFrom 22 = .ok (.putfield 18, 3) := by decide +kernel
theorem dX1_loadFrom_25 : decode cX1_loadFrom 25 = .ok (.aload_n 1, 1) := by decide +kernel
theorem dX1_loadFrom_26 : decode cX1_loadFrom 26 = .ok (.iload_n 2, 1) := by decide +kernel
theorem dX1_loadFrom_27 : decode cX1_loadFrom 27 = .ok (.iconst 3, 1) := by decide +kernel
theorem dX1_loadFrom_28 : decode cX1_loadFrom 28 = .ok (.iadd, 1) := by decide +kernel
theorem dX1_loadFrom_29 : decode cX1_loadFrom 29 = .ok (.aload_n 0, 1) := by decide +kernel
theorem dX1_loadFrom_30 : decode cX1_loadFrom 30 = .ok (.getfield 21, 3) := by decide +kernel
theorem dX1_loadFrom_33 : decode cX1_loadFrom 33 = .ok (.iconst 0, 1) := by decide +kernel
theorem dX1_loadFrom_34 : decode cX1_loadFrom 34 = .ok (.bipush 9, 2) := by decide +kernel
theorem dX1_loadFrom_36 : decode cX1_loadFrom 36 = .ok (.invokestatic 41, 3) := by decide +kernel
theorem dX1_loadFrom_39 : decode cX1_loadFrom 39 = .ok (.aload_n 1, 1) := by decide +kernel
theorem dX1_loadFrom_40 : decode cX1_loadFrom 40 = .ok (.iload_n 2, 1) := by decide +kernel
theorem dX1_loadFrom_41 : decode cX1_loadFrom 41 = .ok (.iconst 3, 1) := by decide +kernel
theorem dX1_loadFrom_42 : decode cX1_loadFrom 42 = .ok (.iadd, 1) := by decide +kernel
theorem dX1_loadFrom_43 : decode cX1_loadFrom 43 = .ok (.bipush 9, 2) := by decide +kernel
theorem dX1_loadFrom_45 : decode cX1_loadFrom 45 = .ok (.iadd, 1) := by decide +kernel
theorem dX1_loadFrom_46 : decode cX1_loadFrom 46 = .ok (.aload_n 0, 1) := by decide +kernel
theorem dX1_loadFrom_47 : decode cX1_loadFrom 47 = .ok (.getfield 25, 3) := by decide +kernel
theorem dX1_loadFrom_50 : decode cX1_loadFrom 50 = .ok (.iconst 0, 1) := by decide +kernel
theorem dX1_loadFrom_51 : decode cX1_loadFrom 51 = .ok (.bipush 9, 2) := by decide +kernel
theorem dX1_loadFrom_53 : decode cX1_loadFrom 53 = .ok (.invokestatic 41, 3) := by decide +kernel
theorem dX1_loadFrom_56 : decode cX1_loadFrom 56 = .ok (.aload_n 1, 1) := by decide +kernel
theorem dX1_loadFrom_57 : decode cX1_loadFrom 57 = .ok (.iload_n 2, 1) := by decide +kernel
theorem dX1_loadFrom_58 : decode cX1_loadFrom 58 = .ok (.iconst 3, 1) := by decide +kernel
theorem dX1_loadFrom_59 : decode cX1_loadFrom 59 = .ok (.iadd, 1) := by decide +kernel
theorem dX1_loadFrom_60 : decode cX1_loadFrom 60 = .ok (.bipush 9, 2) := by decide +kernel
theorem dX1_loadFrom_62 : decode cX1_loadFrom 62 = .ok (.iadd, 1) := by decide +kernel
theorem dX1_loadFrom_63 : decode cX1_loadFrom 63 = .ok (.bipush 9, 2) := by decide +kernel
theorem dX1_loadFrom_65 : decode cX1_loadFrom 65 = .ok (.iadd, 1) := by decide +kernel
theorem dX1_loadFrom_66 : decode cX1_loadFrom 66 = .ok (.aload_n 0, 1) := by decide +kernel
theorem dX1_loadFrom_67 : decode cX1_loadFrom 67 = .ok (.getfield 28, 3) := by decide +kernel
theorem dX1_loadFrom_70 : decode cX1_loadFrom 70 = .ok (.iconst 0, 1) := by decide +kernel
theorem dX1_loadFrom_71 : decode cX1_loadFrom 71 = .ok (.bipush 72, 2) := by decide +kernel
theorem dX1_loadFrom_73 : decode cX1_loadFrom 73 = .ok (.invokestatic 41, 3) := by decide +kernel
theorem dX1_loadFrom_76 : decode cX1_loadFrom 76 = .ok (.return_, 1) := by decide +kernel
theorem dX1_has_0 : decode cX1_has 0 = .ok (.iload_n 1, 1) := by decide +kernel
theorem dX1_has_1 : decode cX1_has 1 = .ok (.ifCond .lt 15, 3) := by decide +kernel
theorem dX1_has_4 : decode cX1_has 4 = .ok (.iload_n 1, 1) := by decide +kernel
theorem dX1_has_5 : decode cX1_has 5 = .ok (.aload_n 0, 1) := by decide +kernel
theorem dX1_has_6 : decode cX1_has 6 = .ok (.getfield 18, 3) := by decide +kernel
theorem dX1_has_9 : decode cX1_has 9 = .ok (.if_icmp .ge 7, 3) := by decide +kernel
theorem dX1_has_12 : decode cX1_has 12 = .ok (.iconst 1, 1) := by decide +kernel
theorem dX1_has_13 : decode cX1_has 13 = .ok (.goto 4, 3) := by decide +kernel
theorem dX1_has_16 : decode cX1_has 16 = .ok (.iconst 0, 1) := by decide +kernel
theorem dX1_has_17 : decode cX1_has 17 = .ok (.ireturn, 1) := by decide +kernel
theorem dX1_hasTwo_0 : decode cX1_hasTwo 0 = .ok (.aload_n 0, 1) := by decide +kernel
theorem dX1_hasTwo_1 : decode cX1_hasTwo 1 = .ok (.iload_n 1, 1) := by decide +kernel
theorem dX1_hasTwo_2 : decode cX1_hasTwo 2 = .ok (.invokevirtual 47, 3) := by decide +kernel
theorem dX1_hasTwo_5 : decode cX1_hasTwo 5 = .ok (.ifCond .eq 20, 3) := by decide +kernel
theorem dX1_hasTwo_8 : decode cX1_hasTwo 8 = .ok (.aload_n 0, 1) := by decide +kernel
theorem dX1_hasTwo_9 : decode cX1_hasTwo 9 = .ok (.iload_n 2, 1) := by decide +kernel
theorem dX1_hasTwo_10 : decode cX1_hasTwo 10 = .ok (.invokevirtual 47, 3) := by decide +kernel
theorem dX1_hasTwo_13 : decode cX1_hasTwo 13 = .ok (.ifCond .eq 12, 3) := by decide +kernel
theorem dX1_hasTwo_16 : decode cX1_hasTwo 16 = .ok (.iload_n 1, 1) := by decide +kernel
theorem dX1_hasTwo_17 : decode cX1_hasTwo 17 = .ok (.iload_n 2, 1) := by decide +kernel
theorem dX1_hasTwo_18 : decode cX1_hasTwo 18 = .ok (.if_icmp .eq 7, 3) := by decide +kernel
theorem dX1_hasTwo_21 : decode cX1_hasTwo 21 = .ok (.iconst 1, 1) := by decide +kernel
theorem dX1_hasTwo_22 : decode cX1_hasTwo 22 = .ok (.goto 4, 3) := by decide +kernel
theorem dX1_hasTwo_25 : decode cX1_hasTwo 25 = .ok (.iconst 0, 1) := by decide +kernel
theorem dX1_hasTwo_26 : decode cX1_hasTwo 26 = .ok (.ireturn, 1) := by decide +kernel
theorem dX1_hasValue_0 : decode cX1_hasValue 0 = .ok (.aload_n 0, 1) := by decide +kernel
theorem dX1_hasValue_1 : decode cX1_hasValue 1 = .ok (.iload_n 1, 1) := by decide +kernel
theorem dX1_hasValue_2 : decode cX1_hasValue 2 = .ok (.invokevirtual 47, 3) := by decide +kernel
theorem dX1_hasValue_5 : decode cX1_hasValue 5 = .ok (.ifCond .eq 21, 3) := by decide +kernel
theorem dX1_hasValue_8 : decode cX1_hasValue 8 = .ok (.iload_n 2, 1) := by decide +kernel
theorem dX1_hasValue_9 : decode cX1_hasValue 9 = .ok (.ifCond .lt 17, 3) := by decide +kernel
theorem dX1_hasValue_12 : decode cX1_hasValue 12 = .ok (.iload_n 2, 1) := by decide +kernel
theorem dX1_hasValue_13 : decode cX1_hasValue 13 = .ok (.aload_n 0, 1) := by decide +kernel
theorem dX1_hasValue_14 : decode cX1_hasValue 14 = .ok (.getfield 21, 3) := by decide +kernel
theorem dX1_hasValue_17 : decode cX1_hasValue 17 = .ok (.iload_n 1, 1) := by decide +kernel
theorem dX1_hasValue_18 : decode cX1_hasValue 18 = .ok (.iaload, 1) := by decide +kernel
theorem dX1_hasValue_19 : decode cX1_hasValue 19 = .ok (.if_icmp .ge 7, 3) := by decide +kernel
theorem dX1_hasValue_22 : decode cX1_hasValue 22 = .ok (.iconst 1, 1) := by decide +kernel
theorem dX1_hasValue_23 : decode cX1_hasValue 23 = .ok (.goto 4, 3) := by decide +kernel
theorem dX1_hasValue_26 : decode cX1_hasValue 26 = .ok (.iconst 0, 1) := by decide +kernel
theorem dX1_hasValue_27 : decode cX1_hasValue 27 = .ok (.ireturn, 1) := by decide +kernel
theorem dX1_canSplit_0 : decode cX1_canSplit 0 = .ok (.aload_n 0, 1) := by decide +kernel
theorem dX1_canSplit_1 : decode cX1_canSplit 1 = .ok (.iload_n 1, 1) := by decide +kernel
theorem dX1_canSplit_2 : decode cX1_canSplit 2 = .ok (.invokevirtual 47, 3) := by decide +kernel
theorem dX1_canSplit_5 : decode cX1_canSplit 5 = .ok (.ifCond .eq 22, 3) := by decide +kernel
theorem dX1_canSplit_8 : decode cX1_canSplit 8 = .ok (.iload_n 2, 1) := by decide +kernel
theorem dX1_canSplit_9 : decode cX1_canSplit 9 = .ok (.iconst 1, 1) := by decide +kernel
theorem dX1_canSplit_10 : decode cX1_canSplit 10 = .ok (.if_icmp .lt 17, 3) := by decide +kernel
theorem dX1_canSplit_13 : decode cX1_canSplit 13 = .ok (.iload_n 2, 1) := by decide +kernel
theorem dX1_canSplit_14 : decode cX1_canSplit 14 = .ok (.aload_n 0, 1) := by decide +kernel
theorem dX1_canSplit_15 : decode cX1_canSplit 15 = .ok (.getfield 21, 3) := by decide +kernel
theorem dX1_canSplit_18 : decode cX1_canSplit 18 = .ok (.iload_n 1, 1) := by decide +kernel
theorem dX1_canSplit_19 : decode cX1_canSplit 19 = .ok (.iaload, 1) := by decide +kernel
theorem dX1_canSplit_20 : decode cX1_canSplit 20 = .ok (.if_icmp .ge 7, 3) := by decide +kernel
theorem dX1_canSplit_23 : decode cX1_canSplit 23 = .ok (.iconst 1, 1) := by decide +kernel
theorem dX1_canSplit_24 : decode cX1_canSplit 24 = .ok (.goto 4, 3) := by decide +kernel
theorem dX1_canSplit_27 : decode cX1_canSplit 27 = .ok (.iconst 0, 1) := by decide +kernel
theorem dX1_canSplit_28 : decode cX1_canSplit 28 = .ok (.ireturn, 1) := by decide +kernel
theorem dX1_valueAt_0 : decode cX1_valueAt 0 = .ok (.aload_n 0, 1) := by decide +kernel
theorem dX1_valueAt_1 : decode cX1_valueAt 1 = .ok (.getfield 28, 3) := by decide +kernel
theorem dX1_valueAt_4 : decode cX1_valueAt 4 = .ok (.iload_n 1, 1) := by decide +kernel
theorem dX1_valueAt_5 : decode cX1_valueAt 5 = .ok (.bipush 8, 2) := by decide +kernel
theorem dX1_valueAt_7 : decode cX1_valueAt 7 = .ok (.imul, 1) := by decide +kernel
theorem dX1_valueAt_8 : decode cX1_valueAt 8 = .ok (.iload_n 2, 1) := by decide +kernel
theorem dX1_valueAt_9 : decode cX1_valueAt 9 = .ok (.iadd, 1) := by decide +kernel
theorem dX1_valueAt_10 : decode cX1_valueAt 10 = .ok (.iaload, 1) := by decide +kernel
theorem dX1_valueAt_11 : decode cX1_valueAt 11 = .ok (.ireturn, 1) := by decide +kernel
theorem dX1_everyone_0 : decode cX1_everyone 0 = .ok (.iconst 1, 1) := by decide +kernel
theorem dX1_everyone_1 : decode cX1_everyone 1 = .ok (.aload_n 0, 1) := by decide +kernel
theorem dX1_everyone_2 : decode cX1_everyone 2 = .ok (.getfield 18, 3) := by decide +kernel
theorem dX1_everyone_5 : decode cX1_everyone 5 = .ok (.ishl, 1) := by decide +kernel
theorem dX1_everyone_6 : decode cX1_everyone 6 = .ok (.iconst 1, 1) := by decide +kernel
theorem dX1_everyone_7 : decode cX1_everyone 7 = .ok (.isub, 1) := by decide +kernel
theorem dX1_everyone_8 : decode cX1_everyone 8 = .ok (.ireturn, 1) := by decide +kernel
theorem dX1_addBidder_0 : decode cX1_addBidder 0 = .ok (.aload_n 0, 1) := by decide +kernel
theorem dX1_addBidder_1 : decode cX1_addBidder 1 = .ok (.getfield 18, 3) := by decide +kernel
theorem dX1_addBidder_4 : decode cX1_addBidder 4 = .ok (.istore_n 1, 1) := by decide +kernel
theorem dX1_addBidder_5 : decode cX1_addBidder 5 = .ok (.aload_n 0, 1) := by decide +kernel
theorem dX1_addBidder_6 : decode cX1_addBidder 6 = .ok (.getfield 21, 3) := by decide +kernel
theorem dX1_addBidder_9 : decode cX1_addBidder 9 = .ok (.iload_n 1, 1) := by decide +kernel
theorem dX1_addBidder_10 : decode cX1_addBidder 10 = .ok (.iconst 0, 1) := by decide +kernel
theorem dX1_addBidder_11 : decode cX1_addBidder 11 = .ok (.iastore, 1) := by decide +kernel
theorem dX1_addBidder_12 : decode cX1_addBidder 12 = .ok (.aload_n 0, 1) := by decide +kernel
theorem dX1_addBidder_13 : decode cX1_addBidder 13 = .ok (.getfield 25, 3) := by decide +kernel
theorem dX1_addBidder_16 : decode cX1_addBidder 16 = .ok (.iload_n 1, 1) := by decide +kernel
theorem dX1_addBidder_17 : decode cX1_addBidder 17 = .ok (.bipush 8, 2) := by decide +kernel
theorem dX1_addBidder_19 : decode cX1_addBidder 19 = .ok (.iastore, 1) := by decide +kernel
theorem dX1_addBidder_20 : decode cX1_addBidder 20 = .ok (.aload_n 0, 1) := by decide +kernel
theorem dX1_addBidder_21 : decode cX1_addBidder 21 = .ok (.dup, 1) := by decide +kernel
theorem dX1_addBidder_22 : decode cX1_addBidder 22 = .ok (.getfield 18, 3) := by decide +kernel
theorem dX1_addBidder_25 : decode cX1_addBidder 25 = .ok (.iconst 1, 1) := by decide +kernel
theorem dX1_addBidder_26 : decode cX1_addBidder 26 = .ok (.iadd, 1) := by decide +kernel
theorem dX1_addBidder_27 : decode cX1_addBidder 27 = .ok (.putfield 18, 3) := by decide +kernel
theorem dX1_addBidder_30 : decode cX1_addBidder 30 = .ok (.iload_n 1, 1) := by decide +kernel
theorem dX1_addBidder_31 : decode cX1_addBidder 31 = .ok (.ireturn, 1) := by decide +kernel
theorem dX1_setLike_0 : decode cX1_setLike 0 = .ok (.aload_n 0, 1) := by decide +kernel
theorem dX1_setLike_1 : decode cX1_setLike 1 = .ok (.getfield 21, 3) := by decide +kernel
theorem dX1_setLike_4 : decode cX1_setLike 4 = .ok (.iload_n 1, 1) := by decide +kernel
theorem dX1_setLike_5 : decode cX1_setLike 5 = .ok (.aload_n 2, 1) := by decide +kernel
theorem dX1_setLike_6 : decode cX1_setLike 6 = .ok (.getfield 21, 3) := by decide +kernel
theorem dX1_setLike_9 : decode cX1_setLike 9 = .ok (.iload_n 3, 1) := by decide +kernel
theorem dX1_setLike_10 : decode cX1_setLike 10 = .ok (.iaload, 1) := by decide +kernel
theorem dX1_setLike_11 : decode cX1_setLike 11 = .ok (.iastore, 1) := by decide +kernel
theorem dX1_setLike_12 : decode cX1_setLike 12 = .ok (.aload_n 0, 1) := by decide +kernel
theorem dX1_setLike_13 : decode cX1_setLike 13 = .ok (.getfield 25, 3) := by decide +kernel
theorem dX1_setLike_16 : decode cX1_setLike 16 = .ok (.iload_n 1, 1) := by decide +kernel
theorem dX1_setLike_17 : decode cX1_setLike 17 = .ok (.aload_n 2, 1) := by decide +kernel
theorem dX1_setLike_18 : decode cX1_setLike 18 = .ok (.getfield 25, 3) := by decide +kernel
theorem dX1_setLike_21 : decode cX1_setLike 21 = .ok (.iload_n 3, 1) := by decide +kernel
theorem dX1_setLike_22 : decode cX1_setLike 22 = .ok (.iaload, 1) := by decide +kernel
theorem dX1_setLike_23 : decode cX1_setLike 23 = .ok (.iastore, 1) := by decide +kernel
theorem dX1_setLike_24 : decode cX1_setLike 24 = .ok (.aload_n 2, 1) := by decide +kernel
theorem dX1_setLike_25 : decode cX1_setLike 25 = .ok (.getfield 28, 3) := by decide +kernel
theorem dX1_setLike_28 : decode cX1_setLike 28 = .ok (.iload_n 3, 1) := by decide +kernel
theorem dX1_setLike_29 : decode cX1_setLike 29 = .ok (.bipush 8, 2) := by decide +kernel
theorem dX1_setLike_31 : decode cX1_setLike 31 = .ok (.imul, 1) := by decide +kernel
theorem dX1_setLike_32 : decode cX1_setLike 32 = .ok (.aload_n 0, 1) := by decide +kernel
theorem dX1_setLike_33 : decode cX1_setLike 33 = .ok (.getfield 28, 3) := by decide +kernel
theorem dX1_setLike_36 : decode cX1_setLike 36 = .ok (.iload_n 1, 1) := by decide +kernel
theorem dX1_setLike_37 : decode cX1_setLike 37 = .ok (.bipush 8, 2) := by decide +kernel
theorem dX1_setLike_39 : decode cX1_setLike 39 = .ok (.imul, 1) := by decide +kernel
theorem dX1_setLike_40 : decode cX1_setLike 40 = .ok (.bipush 8, 2) := by decide +kernel
theorem dX1_setLike_42 : decode cX1_setLike 42 = .ok (.invokestatic 41, 3) := by decide +kernel
theorem dX1_setLike_45 : decode cX1_setLike 45 = .ok (.return_, 1) := by decide +kernel
theorem dX1_removeBidder_0 : decode cX1_removeBidder 0 = .ok (.iload_n 1, 1) := by decide +kernel
theorem dX1_removeBidder_1 : decode cX1_removeBidder 1 = .ok (.istore_n 2, 1) := by decide +kernel
theorem dX1_removeBidder_2 : decode cX1_removeBidder 2 = .ok (.iload_n 2, 1) := by decide +kernel
theorem dX1_removeBidder_3 : decode cX1_removeBidder 3 = .ok (.iconst 1, 1) := by decide +kernel
theorem dX1_removeBidder_4 : decode cX1_removeBidder 4 = .ok (.iadd, 1) := by decide +kernel
theorem dX1_removeBidder_5 : decode cX1_removeBidder 5 = .ok (.aload_n 0, 1) := by decide +kernel
theorem dX1_removeBidder_6 : decode cX1_removeBidder 6 = .ok (.getfield 18, 3) := by decide +kernel
theorem dX1_removeBidder_9 : decode cX1_removeBidder 9 = .ok (.if_icmp .ge 18, 3) := by decide +kernel
theorem dX1_removeBidder_12 : decode cX1_removeBidder 12 = .ok (.aload_n 0, 1) := by decide +kernel
theorem dX1_removeBidder_13 : decode cX1_removeBidder 13 = .ok (.iload_n 2, 1) := by decide +kernel
theorem dX1_removeBidder_14 : decode cX1_removeBidder 14 = .ok (.aload_n 0, 1) := by decide +kernel
theorem dX1_removeBidder_15 : decode cX1_removeBidder 15 = .ok (.iload_n 2, 1) := by decide +kernel
theorem dX1_removeBidder_16 : decode cX1_removeBidder 16 = .ok (.iconst 1, 1) := by decide +kernel
theorem dX1_removeBidder_17 : decode cX1_removeBidder 17 = .ok (.iadd, 1) := by decide +kernel
theorem dX1_removeBidder_18 : decode cX1_removeBidder 18 = .ok (.invokevirtual 37, 3) := by decide +kernel
theorem dX1_removeBidder_21 : decode cX1_removeBidder 21 = .ok (.iinc 2 1, 3) := by decide +kernel
theorem dX1_removeBidder_24 : decode cX1_removeBidder 24 = .ok (.goto (-22), 3) := by decide +kernel
theorem dX1_removeBidder_27 : decode cX1_removeBidder 27 = .ok (.aload_n 0, 1) := by decide +kernel
theorem dX1_removeBidder_28 : decode cX1_removeBidder 28 = .ok (.dup, 1) := by decide +kernel
theorem dX1_removeBidder_29 : decode cX1_removeBidder 29 = .ok (.getfield 18, 3) := by decide +kernel
theorem dX1_removeBidder_32 : decode cX1_removeBidder 32 = .ok (.iconst 1, 1) := by decide +kernel
theorem dX1_removeBidder_33 : decode cX1_removeBidder 33 = .ok (.isub, 1) := by decide +kernel
theorem dX1_removeBidder_34 : decode cX1_removeBidder 34 = .ok (.putfield 18, 3) := by decide +kernel
theorem dX1_removeBidder_37 : decode cX1_removeBidder 37 = .ok (.return_, 1) := by decide +kernel
theorem dX1_exchange_0 : decode cX1_exchange 0 = .ok (.aload_n 0, 1) := by decide +kernel
theorem dX1_exchange_1 : decode cX1_exchange 1 = .ok (.getfield 21, 3) := by decide +kernel
theorem dX1_exchange_4 : decode cX1_exchange 4 = .ok (.iload_n 1, 1) := by decide +kernel
theorem dX1_exchange_5 : decode cX1_exchange 5 = .ok (.iaload, 1) := by decide +kernel
theorem dX1_exchange_6 : decode cX1_exchange 6 = .ok (.istore_n 3, 1) := by decide +kernel
theorem dX1_exchange_7 : decode cX1_exchange 7 = .ok (.aload_n 0, 1) := by decide +kernel
theorem dX1_exchange_8 : decode cX1_exchange 8 = .ok (.getfield 21, 3) := by decide +kernel
theorem dX1_exchange_11 : decode cX1_exchange 11 = .ok (.iload_n 1, 1) := by decide +kernel
theorem dX1_exchange_12 : decode cX1_exchange 12 = .ok (.aload_n 0, 1) := by decide +kernel
theorem dX1_exchange_13 : decode cX1_exchange 13 = .ok (.getfield 21, 3) := by decide +kernel
theorem dX1_exchange_16 : decode cX1_exchange 16 = .ok (.iload_n 2, 1) := by decide +kernel
theorem dX1_exchange_17 : decode cX1_exchange 17 = .ok (.iaload, 1) := by decide +kernel
theorem dX1_exchange_18 : decode cX1_exchange 18 = .ok (.iastore, 1) := by decide +kernel
theorem dX1_exchange_19 : decode cX1_exchange 19 = .ok (.aload_n 0, 1) := by decide +kernel
theorem dX1_exchange_20 : decode cX1_exchange 20 = .ok (.getfield 21, 3) := by decide +kernel
theorem dX1_exchange_23 : decode cX1_exchange 23 = .ok (.iload_n 2, 1) := by decide +kernel
theorem dX1_exchange_24 : decode cX1_exchange 24 = .ok (.iload_n 3, 1) := by decide +kernel
theorem dX1_exchange_25 : decode cX1_exchange 25 = .ok (.iastore, 1) := by decide +kernel
theorem dX1_exchange_26 : decode cX1_exchange 26 = .ok (.aload_n 0, 1) := by decide +kernel
theorem dX1_exchange_27 : decode cX1_exchange 27 = .ok (.getfield 25, 3) := by decide +kernel
theorem dX1_exchange_30 : decode cX1_exchange 30 = .ok (.iload_n 1, 1) := by decide +kernel
theorem dX1_exchange_31 : decode cX1_exchange 31 = .ok (.iaload, 1) := by decide +kernel
theorem dX1_exchange_32 : decode cX1_exchange 32 = .ok (.istore 4, 2) := by decide +kernel
theorem dX1_exchange_34 : decode cX1_exchange 34 = .ok (.aload_n 0, 1) := by decide +kernel
theorem dX1_exchange_35 : decode cX1_exchange 35 = .ok (.getfield 25, 3) := by decide +kernel
theorem dX1_exchange_38 : decode cX1_exchange 38 = .ok (.iload_n 1, 1) := by decide +kernel
theorem dX1_exchange_39 : decode cX1_exchange 39 = .ok (.aload_n 0, 1) := by decide +kernel
theorem dX1_exchange_40 : decode cX1_exchange 40 = .ok (.getfield 25, 3) := by decide +kernel
theorem dX1_exchange_43 : decode cX1_exchange 43 = .ok (.iload_n 2, 1) := by decide +kernel
theorem dX1_exchange_44 : decode cX1_exchange 44 = .ok (.iaload, 1) := by decide +kernel
theorem dX1_exchange_45 : decode cX1_exchange 45 = .ok (.iastore, 1) := by decide +kernel
theorem dX1_exchange_46 : decode cX1_exchange 46 = .ok (.aload_n 0, 1) := by decide +kernel
theorem dX1_exchange_47 : decode cX1_exchange 47 = .ok (.getfield 25, 3) := by decide +kernel
theorem dX1_exchange_50 : decode cX1_exchange 50 = .ok (.iload_n 2, 1) := by decide +kernel
theorem dX1_exchange_51 : decode cX1_exchange 51 = .ok (.iload 4, 2) := by decide +kernel
theorem dX1_exchange_53 : decode cX1_exchange 53 = .ok (.iastore, 1) := by decide +kernel
theorem dX1_exchange_54 : decode cX1_exchange 54 = .ok (.iconst 0, 1) := by decide +kernel
theorem dX1_exchange_55 : decode cX1_exchange 55 = .ok (.istore 5, 2) := by decide +kernel
theorem dX1_exchange_57 : decode cX1_exchange 57 = .ok (.iload 5, 2) := by decide +kernel
theorem dX1_exchange_59 : decode cX1_exchange 59 = .ok (.bipush 8, 2) := by decide +kernel
theorem dX1_exchange_61 : decode cX1_exchange 61 = .ok (.if_icmp .ge 51, 3) := by decide +kernel
theorem dX1_exchange_64 : decode cX1_exchange 64 = .ok (.aload_n 0, 1) := by decide +kernel
theorem dX1_exchange_65 : decode cX1_exchange 65 = .ok (.iload_n 1, 1) := by decide +kernel
theorem dX1_exchange_66 : decode cX1_exchange 66 = .ok (.iload 5, 2) := by decide +kernel
theorem dX1_exchange_68 : decode cX1_exchange 68 = .ok (.invokevirtual 51, 3) := by decide +kernel
theorem dX1_exchange_71 : decode cX1_exchange 71 = .ok (.istore 6, 2) := by decide +kernel
theorem dX1_exchange_73 : decode cX1_exchange 73 = .ok (.aload_n 0, 1) := by decide +kernel
theorem dX1_exchange_74 : decode cX1_exchange 74 = .ok (.getfield 28, 3) := by decide +kernel
theorem dX1_exchange_77 : decode cX1_exchange 77 = .ok (.iload_n 1, 1) := by decide +kernel
theorem dX1_exchange_78 : decode cX1_exchange 78 = .ok (.bipush 8, 2) := by decide +kernel
theorem dX1_exchange_80 : decode cX1_exchange 80 = .ok (.imul, 1) := by decide +kernel
theorem dX1_exchange_81 : decode cX1_exchange 81 = .ok (.iload 5, 2) := by decide +kernel
theorem dX1_exchange_83 : decode cX1_exchange 83 = .ok (.iadd, 1) := by decide +kernel
theorem dX1_exchange_84 : decode cX1_exchange 84 = .ok (.aload_n 0, 1) := by decide +kernel
theorem dX1_exchange_85 : decode cX1_exchange 85 = .ok (.iload_n 2, 1) := by decide +kernel
theorem dX1_exchange_86 : decode cX1_exchange 86 = .ok (.iload 5, 2) := by decide +kernel
theorem dX1_exchange_88 : decode cX1_exchange 88 = .ok (.invokevirtual 51, 3) := by decide +kernel
theorem dX1_exchange_91 : decode cX1_exchange 91 = .ok (.iastore, 1) := by decide +kernel
theorem dX1_exchange_92 : decode cX1_exchange 92 = .ok (.aload_n 0, 1) := by decide +kernel
theorem dX1_exchange_93 : decode cX1_exchange 93 = .ok (.getfield 28, 3) := by decide +kernel
theorem dX1_exchange_96 : decode cX1_exchange 96 = .ok (.iload_n 2, 1) := by decide +kernel
theorem dX1_exchange_97 : decode cX1_exchange 97 = .ok (.bipush 8, 2) := by decide +kernel
theorem dX1_exchange_99 : decode cX1_exchange 99 = .ok (.imul, 1) := by decide +kernel
theorem dX1_exchange_100 : decode cX1_exchange 100 = .ok (.iload 5, 2) := by decide +kernel
theorem dX1_exchange_102 : decode cX1_exchange 102 = .ok (.iadd, 1) := by decide +kernel
theorem dX1_exchange_103 : decode cX1_exchange 103 = .ok (.iload 6, 2) := by decide +kernel
theorem dX1_exchange_105 : decode cX1_exchange 105 = .ok (.iastore, 1) := by decide +kernel
theorem dX1_exchange_106 : decode cX1_exchange 106 = .ok (.iinc 5 1, 3) := by decide +kernel
theorem dX1_exchange_109 : decode cX1_exchange 109 = .ok (.goto (-52), 3) := by decide +kernel
theorem dX1_exchange_112 : decode cX1_exchange 112 = .ok (.return_, 1) := by decide +kernel
theorem dX1_moveBidder_0 : decode cX1_moveBidder 0 = .ok (.iload_n 1, 1) := by decide +kernel
theorem dX1_moveBidder_1 : decode cX1_moveBidder 1 = .ok (.istore_n 3, 1) := by decide +kernel
theorem dX1_moveBidder_2 : decode cX1_moveBidder 2 = .ok (.iload_n 3, 1) := by decide +kernel
theorem dX1_moveBidder_3 : decode cX1_moveBidder 3 = .ok (.iload_n 2, 1) := by decide +kernel
theorem dX1_moveBidder_4 : decode cX1_moveBidder 4 = .ok (.if_icmp .ge 17, 3) := by decide +kernel
theorem dX1_moveBidder_7 : decode cX1_moveBidder 7 = .ok (.aload_n 0, 1) := by decide +kernel
theorem dX1_moveBidder_8 : decode cX1_moveBidder 8 = .ok (.iload_n 3, 1) := by decide +kernel
theorem dX1_moveBidder_9 : decode cX1_moveBidder 9 = .ok (.iload_n 3, 1) := by decide +kernel
theorem dX1_moveBidder_10 : decode cX1_moveBidder 10 = .ok (.iconst 1, 1) := by decide +kernel
theorem dX1_moveBidder_11 : decode cX1_moveBidder 11 = .ok (.iadd, 1) := by decide +kernel
theorem dX1_moveBidder_12 : decode cX1_moveBidder 12 = .ok (.invokevirtual 55, 3) := by decide +kernel
theorem dX1_moveBidder_15 : decode cX1_moveBidder 15 = .ok (.iinc 3 1, 3) := by decide +kernel
theorem dX1_moveBidder_18 : decode cX1_moveBidder 18 = .ok (.goto (-16), 3) := by decide +kernel
theorem dX1_moveBidder_21 : decode cX1_moveBidder 21 = .ok (.iload_n 1, 1) := by decide +kernel
theorem dX1_moveBidder_22 : decode cX1_moveBidder 22 = .ok (.istore_n 3, 1) := by decide +kernel
theorem dX1_moveBidder_23 : decode cX1_moveBidder 23 = .ok (.iload_n 3, 1) := by decide +kernel
theorem dX1_moveBidder_24 : decode cX1_moveBidder 24 = .ok (.iload_n 2, 1) := by decide +kernel
theorem dX1_moveBidder_25 : decode cX1_moveBidder 25 = .ok (.if_icmp .le 17, 3) := by decide +kernel
theorem dX1_moveBidder_28 : decode cX1_moveBidder 28 = .ok (.aload_n 0, 1) := by decide +kernel
theorem dX1_moveBidder_29 : decode cX1_moveBidder 29 = .ok (.iload_n 3, 1) := by decide +kernel
theorem dX1_moveBidder_30 : decode cX1_moveBidder 30 = .ok (.iload_n 3, 1) := by decide +kernel
theorem dX1_moveBidder_31 : decode cX1_moveBidder 31 = .ok (.iconst 1, 1) := by decide +kernel
theorem dX1_moveBidder_32 : decode cX1_moveBidder 32 = .ok (.isub, 1) := by decide +kernel
theorem dX1_moveBidder_33 : decode cX1_moveBidder 33 = .ok (.invokevirtual 55, 3) := by decide +kernel
theorem dX1_moveBidder_36 : decode cX1_moveBidder 36 = .ok (.iinc 3 (-1), 3) := by decide +kernel
theorem dX1_moveBidder_39 : decode cX1_moveBidder 39 = .ok (.goto (-16), 3) := by decide +kernel
theorem dX1_moveBidder_42 : decode cX1_moveBidder 42 = .ok (.return_, 1) := by decide +kernel
theorem dX1_splitOff_0 : decode cX1_splitOff 0 = .ok (.aload_n 0, 1) := by decide +kernel
theorem dX1_splitOff_1 : decode cX1_splitOff 1 = .ok (.invokevirtual 59, 3) := by decide +kernel
theorem dX1_splitOff_4 : decode cX1_splitOff 4 = .ok (.istore_n 3, 1) := by decide +kernel
theorem dX1_splitOff_5 : decode cX1_splitOff 5 = .ok (.aload_n 0, 1) := by decide +kernel
theorem dX1_splitOff_6 : decode cX1_splitOff 6 = .ok (.getfield 25, 3) := by decide +kernel
theorem dX1_splitOff_9 : decode cX1_splitOff 9 = .ok (.iload_n 3, 1) := by decide +kernel
theorem dX1_splitOff_10 : decode cX1_splitOff 10 = .ok (.aload_n 0, 1) := by decide +kernel
theorem dX1_splitOff_11 : decode cX1_splitOff 11 = .ok (.getfield 25, 3) := by decide +kernel
theorem dX1_splitOff_14 : decode cX1_splitOff 14 = .ok (.iload_n 1, 1) := by decide +kernel
theorem dX1_splitOff_15 : decode cX1_splitOff 15 = .ok (.iaload, 1) := by decide +kernel
theorem dX1_splitOff_16 : decode cX1_splitOff 16 = .ok (.iastore, 1) := by decide +kernel
theorem dX1_splitOff_17 : decode cX1_splitOff 17 = .ok (.aload_n 0, 1) := by decide +kernel
theorem dX1_splitOff_18 : decode cX1_splitOff 18 = .ok (.getfield 21, 3) := by decide +kernel
theorem dX1_splitOff_21 : decode cX1_splitOff 21 = .ok (.iload_n 3, 1) := by decide +kernel
theorem dX1_splitOff_22 : decode cX1_splitOff 22 = .ok (.iload_n 2, 1) := by decide +kernel
theorem dX1_splitOff_23 : decode cX1_splitOff 23 = .ok (.iastore, 1) := by decide +kernel
theorem dX1_splitOff_24 : decode cX1_splitOff 24 = .ok (.aload_n 0, 1) := by decide +kernel
theorem dX1_splitOff_25 : decode cX1_splitOff 25 = .ok (.getfield 21, 3) := by decide +kernel
theorem dX1_splitOff_28 : decode cX1_splitOff 28 = .ok (.iload_n 1, 1) := by decide +kernel
theorem dX1_splitOff_29 : decode cX1_splitOff 29 = .ok (.dup2, 1) := by decide +kernel
theorem dX1_splitOff_30 : decode cX1_splitOff 30 = .ok (.iaload, 1) := by decide +kernel
theorem dX1_splitOff_31 : decode cX1_splitOff 31 = .ok (.iload_n 2, 1) := by decide +kernel
theorem dX1_splitOff_32 : decode cX1_splitOff 32 = .ok (.isub, 1) := by decide +kernel
theorem dX1_splitOff_33 : decode cX1_splitOff 33 = .ok (.iastore, 1) := by decide +kernel
theorem dX1_splitOff_34 : decode cX1_splitOff 34 = .ok (.iload_n 1, 1) := by decide +kernel
theorem dX1_splitOff_35 : decode cX1_splitOff 35 = .ok (.bipush 8, 2) := by decide +kernel
theorem dX1_splitOff_37 : decode cX1_splitOff 37 = .ok (.imul, 1) := by decide +kernel
theorem dX1_splitOff_38 : decode cX1_splitOff 38 = .ok (.aload_n 0, 1) := by decide +kernel
theorem dX1_splitOff_39 : decode cX1_splitOff 39 = .ok (.getfield 21, 3) := by decide +kernel
theorem dX1_splitOff_42 : decode cX1_splitOff 42 = .ok (.iload_n 1, 1) := by decide +kernel
theorem dX1_splitOff_43 : decode cX1_splitOff 43 = .ok (.iaload, 1) := by decide +kernel
theorem dX1_splitOff_44 : decode cX1_splitOff 44 = .ok (.iadd, 1) := by decide +kernel
theorem dX1_splitOff_45 : decode cX1_splitOff 45 = .ok (.istore 4, 2) := by decide +kernel
theorem dX1_splitOff_47 : decode cX1_splitOff 47 = .ok (.aload_n 0, 1) := by decide +kernel
theorem dX1_splitOff_48 : decode cX1_splitOff 48 = .ok (.getfield 28, 3) := by decide +kernel
theorem dX1_splitOff_51 : decode cX1_splitOff 51 = .ok (.iload 4, 2) := by decide +kernel
theorem dX1_splitOff_53 : decode cX1_splitOff 53 = .ok (.aload_n 0, 1) := by decide +kernel
theorem dX1_splitOff_54 : decode cX1_splitOff 54 = .ok (.getfield 28, 3) := by decide +kernel
theorem dX1_splitOff_57 : decode cX1_splitOff 57 = .ok (.iload_n 3, 1) := by decide +kernel
theorem dX1_splitOff_58 : decode cX1_splitOff 58 = .ok (.bipush 8, 2) := by decide +kernel
theorem dX1_splitOff_60 : decode cX1_splitOff 60 = .ok (.imul, 1) := by decide +kernel
theorem dX1_splitOff_61 : decode cX1_splitOff 61 = .ok (.iload_n 2, 1) := by decide +kernel
theorem dX1_splitOff_62 : decode cX1_splitOff 62 = .ok (.invokestatic 41, 3) := by decide +kernel
theorem dX1_splitOff_65 : decode cX1_splitOff 65 = .ok (.iload_n 3, 1) := by decide +kernel
theorem dX1_splitOff_66 : decode cX1_splitOff 66 = .ok (.ireturn, 1) := by decide +kernel
theorem dX1_insertValue_0 : decode cX1_insertValue 0 = .ok (.iload_n 1, 1) := by decide +kernel
theorem dX1_insertValue_1 : decode cX1_insertValue 1 = .ok (.bipush 8, 2) := by decide +kernel
theorem dX1_insertValue_3 : decode cX1_insertValue 3 = .ok (.imul, 1) := by decide +kernel
theorem dX1_insertValue_4 : decode cX1_insertValue 4 = .ok (.istore_n 3, 1) := by decide +kernel
theorem dX1_insertValue_5 : decode cX1_insertValue 5 = .ok (.aload_n 0, 1) := by decide +kernel
theorem dX1_insertValue_6 : decode cX1_insertValue 6 = .ok (.getfield 21, 3) := by decide +kernel
theorem dX1_insertValue_9 : decode cX1_insertValue 9 = .ok (.iload_n 1, 1) := by decide +kernel
theorem dX1_insertValue_10 : decode cX1_insertValue 10 = .ok (.iaload, 1) := by decide +kernel
theorem dX1_insertValue_11 : decode cX1_insertValue 11 = .ok (.bipush 7, 2) := by decide +kernel
theorem dX1_insertValue_13 : decode cX1_insertValue 13 = .ok (.invokestatic 63, 3) := by decide +kernel
theorem dX1_insertValue_16 : decode cX1_insertValue 16 = .ok (.istore 4, 2) := by decide +kernel
theorem dX1_insertValue_18 : decode cX1_insertValue 18 = .ok (.aload_n 0, 1) := by decide +kernel
theorem dX1_insertValue_19 : decode cX1_insertValue 19 = .ok (.getfield 21, 3) := by decide +kernel
theorem dX1_insertValue_22 : decode cX1_insertValue 22 = .ok (.iload_n 1, 1) := by decide +kernel
theorem dX1_insertValue_23 : decode cX1_insertValue 23 = .ok (.iaload, 1) := by decide +kernel
theorem dX1_insertValue_24 : decode cX1_insertValue 24 = .ok (.bipush 8, 2) := by decide +kernel
theorem dX1_insertValue_26 : decode cX1_insertValue 26 = .ok (.if_icmp .lt 17, 3) := by decide +kernel
theorem dX1_insertValue_29 : decode cX1_insertValue 29 = .ok (.aload_n 0, 1) := by decide +kernel
theorem dX1_insertValue_30 : decode cX1_insertValue 30 = .ok (.getfield 28, 3) := by decide +kernel
theorem dX1_insertValue_33 : decode cX1_insertValue 33 = .ok (.iload_n 3, 1) := by decide +kernel
theorem dX1_insertValue_34 : decode cX1_insertValue 34 = .ok (.iload 4, 2) := by decide +kernel
theorem dX1_insertValue_36 : decode cX1_insertValue 36 = .ok (.iadd, 1) := by decide +kernel
theorem dX1_insertValue_37 : decode cX1_insertValue 37 = .ok (.iaload, 1) := by decide +kernel
theorem dX1_insertValue_38 : decode cX1_insertValue 38 = .ok (.iload_n 2, 1) := by decide +kernel
theorem dX1_insertValue_39 : decode cX1_insertValue 39 = .ok (.if_icmp .lt 4, 3) := by decide +kernel
theorem dX1_insertValue_42 : decode cX1_insertValue 42 = .ok (.return_, 1) := by decide +kernel
theorem dX1_insertValue_43 : decode cX1_insertValue 43 = .ok (.iload 4, 2) := by decide +kernel
theorem dX1_insertValue_45 : decode cX1_insertValue 45 = .ok (.ifCond .le 44, 3) := by decide +kernel
theorem dX1_insertValue_48 : decode cX1_insertValue 48 = .ok (.aload_n 0, 1) := by decide +kernel
theorem dX1_insertValue_49 : decode cX1_insertValue 49 = .ok (.getfield 28, 3) := by decide +kernel
theorem dX1_insertValue_52 : decode cX1_insertValue 52 = .ok (.iload_n 3, 1) := by decide +kernel
theorem dX1_insertValue_53 : decode cX1_insertValue 53 = .ok (.iload 4, 2) := by decide +kernel
theorem dX1_insertValue_55 : decode cX1_insertValue 55 = .ok (.iadd, 1) := by decide +kernel
theorem dX1_insertValue_56 : decode cX1_insertValue 56 = .ok (.iconst 1, 1) := by decide +kernel
theorem dX1_insertValue_57 : decode cX1_insertValue 57 = .ok (.isub, 1) := by decide +kernel
theorem dX1_insertValue_58 : decode cX1_insertValue 58 = .ok (.iaload, 1) := by decide +kernel
theorem dX1_insertValue_59 : decode cX1_insertValue 59 = .ok (.iload_n 2, 1) := by decide +kernel
theorem dX1_insertValue_60 : decode cX1_insertValue 60 = .ok (.if_icmp .ge 29, 3) := by decide +kernel
theorem dX1_insertValue_63 : decode cX1_insertValue 63 = .ok (.aload_n 0, 1) := by decide +kernel
theorem dX1_insertValue_64 : decode cX1_insertValue 64 = .ok (.getfield 28, 3) := by decide +kernel
theorem dX1_insertValue_67 : decode cX1_insertValue 67 = .ok (.iload_n 3, 1) := by decide +kernel
theorem dX1_insertValue_68 : decode cX1_insertValue 68 = .ok (.iload 4, 2) := by decide +kernel
theorem dX1_insertValue_70 : decode cX1_insertValue 70 = .ok (.iadd, 1) := by decide +kernel
theorem dX1_insertValue_71 : decode cX1_insertValue 71 = .ok (.aload_n 0, 1) := by decide +kernel
theorem dX1_insertValue_72 : decode cX1_insertValue 72 = .ok (.getfield 28, 3) := by decide +kernel
theorem dX1_insertValue_75 : decode cX1_insertValue 75 = .ok (.iload_n 3, 1) := by decide +kernel
theorem dX1_insertValue_76 : decode cX1_insertValue 76 = .ok (.iload 4, 2) := by decide +kernel
theorem dX1_insertValue_78 : decode cX1_insertValue 78 = .ok (.iadd, 1) := by decide +kernel
theorem dX1_insertValue_79 : decode cX1_insertValue 79 = .ok (.iconst 1, 1) := by decide +kernel
theorem dX1_insertValue_80 : decode cX1_insertValue 80 = .ok (.isub, 1) := by decide +kernel
theorem dX1_insertValue_81 : decode cX1_insertValue 81 = .ok (.iaload, 1) := by decide +kernel
theorem dX1_insertValue_82 : decode cX1_insertValue 82 = .ok (.iastore, 1) := by decide +kernel
theorem dX1_insertValue_83 : decode cX1_insertValue 83 = .ok (.iinc 4 (-1), 3) := by decide +kernel
theorem dX1_insertValue_86 : decode cX1_insertValue 86 = .ok (.goto (-43), 3) := by decide +kernel
theorem dX1_insertValue_89 : decode cX1_insertValue 89 = .ok (.aload_n 0, 1) := by decide +kernel
theorem dX1_insertValue_90 : decode cX1_insertValue 90 = .ok (.getfield 28, 3) := by decide +kernel
theorem dX1_insertValue_93 : decode cX1_insertValue 93 = .ok (.iload_n 3, 1) := by decide +kernel
theorem dX1_insertValue_94 : decode cX1_insertValue 94 = .ok (.iload 4, 2) := by decide +kernel
theorem dX1_insertValue_96 : decode cX1_insertValue 96 = .ok (.iadd, 1) := by decide +kernel
theorem dX1_insertValue_97 : decode cX1_insertValue 97 = .ok (.iload_n 2, 1) := by decide +kernel
theorem dX1_insertValue_98 : decode cX1_insertValue 98 = .ok (.iastore, 1) := by decide +kernel
theorem dX1_insertValue_99 : decode cX1_insertValue 99 = .ok (.aload_n 0, 1) := by decide +kernel
theorem dX1_insertValue_100 : decode cX1_insertValue 100 = .ok (.getfield 21, 3) := by decide +kernel
theorem dX1_insertValue_103 : decode cX1_insertValue 103 = .ok (.iload_n 1, 1) := by decide +kernel
theorem dX1_insertValue_104 : decode cX1_insertValue 104 = .ok (.aload_n 0, 1) := by decide +kernel
theorem dX1_insertValue_105 : decode cX1_insertValue 105 = .ok (.getfield 21, 3) := by decide +kernel
theorem dX1_insertValue_108 : decode cX1_insertValue 108 = .ok (.iload_n 1, 1) := by decide +kernel
theorem dX1_insertValue_109 : decode cX1_insertValue 109 = .ok (.iaload, 1) := by decide +kernel
theorem dX1_insertValue_110 : decode cX1_insertValue 110 = .ok (.iconst 1, 1) := by decide +kernel
theorem dX1_insertValue_111 : decode cX1_insertValue 111 = .ok (.iadd, 1) := by decide +kernel
theorem dX1_insertValue_112 : decode cX1_insertValue 112 = .ok (.bipush 8, 2) := by decide +kernel
theorem dX1_insertValue_114 : decode cX1_insertValue 114 = .ok (.invokestatic 63, 3) := by decide +kernel
theorem dX1_insertValue_117 : decode cX1_insertValue 117 = .ok (.iastore, 1) := by decide +kernel
theorem dX1_insertValue_118 : decode cX1_insertValue 118 = .ok (.return_, 1) := by decide +kernel
theorem dX1_removeValue_0 : decode cX1_removeValue 0 = .ok (.aload_n 0, 1) := by decide +kernel
theorem dX1_removeValue_1 : decode cX1_removeValue 1 = .ok (.iload_n 1, 1) := by decide +kernel
theorem dX1_removeValue_2 : decode cX1_removeValue 2 = .ok (.iload_n 2, 1) := by decide +kernel
theorem dX1_removeValue_3 : decode cX1_removeValue 3 = .ok (.iconst 1, 1) := by decide +kernel
theorem dX1_removeValue_4 : decode cX1_removeValue 4 = .ok (.invokevirtual 68, 3) := by decide +kernel
theorem dX1_removeValue_7 : decode cX1_removeValue 7 = .ok (.return_, 1) := by decide +kernel
theorem dX1_dropValues_0 : decode cX1_dropValues 0 = .ok (.iload_n 1, 1) := by decide +kernel
theorem dX1_dropValues_1 : decode cX1_dropValues 1 = .ok (.bipush 8, 2) := by decide +kernel
theorem dX1_dropValues_3 : decode cX1_dropValues 3 = .ok (.imul, 1) := by decide +kernel
theorem dX1_dropValues_4 : decode cX1_dropValues 4 = .ok (.istore 4, 2) := by decide +kernel
theorem dX1_dropValues_6 : decode cX1_dropValues 6 = .ok (.aload_n 0, 1) := by decide +kernel
theorem dX1_dropValues_7 : decode cX1_dropValues 7 = .ok (.getfield 21, 3) := by decide +kernel
theorem dX1_dropValues_10 : decode cX1_dropValues 10 = .ok (.iload_n 1, 1) := by decide +kernel
theorem dX1_dropValues_11 : decode cX1_dropValues 11 = .ok (.iaload, 1) := by decide +kernel
theorem dX1_dropValues_12 : decode cX1_dropValues 12 = .ok (.iload_n 2, 1) := by decide +kernel
theorem dX1_dropValues_13 : decode cX1_dropValues 13 = .ok (.isub, 1) := by decide +kernel
theorem dX1_dropValues_14 : decode cX1_dropValues 14 = .ok (.iload_n 3, 1) := by decide +kernel
theorem dX1_dropValues_15 : decode cX1_dropValues 15 = .ok (.isub, 1) := by decide +kernel
theorem dX1_dropValues_16 : decode cX1_dropValues 16 = .ok (.istore 5, 2) := by decide +kernel
theorem dX1_dropValues_18 : decode cX1_dropValues 18 = .ok (.aload_n 0, 1) := by decide +kernel
theorem dX1_dropValues_19 : decode cX1_dropValues 19 = .ok (.getfield 28, 3) := by decide +kernel
theorem dX1_dropValues_22 : decode cX1_dropValues 22 = .ok (.iload 4, 2) := by decide +kernel
theorem dX1_dropValues_24 : decode cX1_dropValues 24 = .ok (.iload_n 2, 1) := by decide +kernel
theorem dX1_dropValues_25 : decode cX1_dropValues 25 = .ok (.iadd, 1) := by decide +kernel
theorem dX1_dropValues_26 : decode cX1_dropValues 26 = .ok (.iload_n 3, 1) := by decide +kernel
theorem dX1_dropValues_27 : decode cX1_dropValues 27 = .ok (.iadd, 1) := by decide +kernel
theorem dX1_dropValues_28 : decode cX1_dropValues 28 = .ok (.aload_n 0, 1) := by decide +kernel
theorem dX1_dropValues_29 : decode cX1_dropValues 29 = .ok (.getfield 28, 3) := by decide +kernel
theorem dX1_dropValues_32 : decode cX1_dropValues 32 = .ok (.iload 4, 2) := by decide +kernel
theorem dX1_dropValues_34 : decode cX1_dropValues 34 = .ok (.iload_n 2, 1) := by decide +kernel
theorem dX1_dropValues_35 : decode cX1_dropValues 35 = .ok (.iadd, 1) := by decide +kernel
theorem dX1_dropValues_36 : decode cX1_dropValues 36 = .ok (.iload 5, 2) := by decide +kernel
theorem dX1_dropValues_38 : decode cX1_dropValues 38 = .ok (.invokestatic 41, 3) := by decide +kernel
theorem dX1_dropValues_41 : decode cX1_dropValues 41 = .ok (.aload_n 0, 1) := by decide +kernel
theorem dX1_dropValues_42 : decode cX1_dropValues 42 = .ok (.getfield 21, 3) := by decide +kernel
theorem dX1_dropValues_45 : decode cX1_dropValues 45 = .ok (.iload_n 1, 1) := by decide +kernel
theorem dX1_dropValues_46 : decode cX1_dropValues 46 = .ok (.dup2, 1) := by decide +kernel
theorem dX1_dropValues_47 : decode cX1_dropValues 47 = .ok (.iaload, 1) := by decide +kernel
theorem dX1_dropValues_48 : decode cX1_dropValues 48 = .ok (.iload_n 3, 1) := by decide +kernel
theorem dX1_dropValues_49 : decode cX1_dropValues 49 = .ok (.isub, 1) := by decide +kernel
theorem dX1_dropValues_50 : decode cX1_dropValues 50 = .ok (.iastore, 1) := by decide +kernel
theorem dX1_dropValues_51 : decode cX1_dropValues 51 = .ok (.return_, 1) := by decide +kernel
theorem dX1_merge_0 : decode cX1_merge 0 = .ok (.iconst 0, 1) := by decide +kernel
theorem dX1_merge_1 : decode cX1_merge 1 = .ok (.istore_n 3, 1) := by decide +kernel
theorem dX1_merge_2 : decode cX1_merge 2 = .ok (.iload_n 3, 1) := by decide +kernel
theorem dX1_merge_3 : decode cX1_merge 3 = .ok (.aload_n 0, 1) := by decide +kernel
theorem dX1_merge_4 : decode cX1_merge 4 = .ok (.getfield 21, 3) := by decide +kernel
theorem dX1_merge_7 : decode cX1_merge 7 = .ok (.iload_n 2, 1) := by decide +kernel
theorem dX1_merge_8 : decode cX1_merge 8 = .ok (.iaload, 1) := by decide +kernel
theorem dX1_merge_9 : decode cX1_merge 9 = .ok (.if_icmp .ge 20, 3) := by decide +kernel
theorem dX1_merge_12 : decode cX1_merge 12 = .ok (.aload_n 0, 1) := by decide +kernel
theorem dX1_merge_13 : decode cX1_merge 13 = .ok (.iload_n 1, 1) := by decide +kernel
theorem dX1_merge_14 : decode cX1_merge 14 = .ok (.aload_n 0, 1) := by decide +kernel
theorem dX1_merge_15 : decode cX1_merge 15 = .ok (.iload_n 2, 1) := by decide +kernel
theorem dX1_merge_16 : decode cX1_merge 16 = .ok (.iload_n 3, 1) := by decide +kernel
theorem dX1_merge_17 : decode cX1_merge 17 = .ok (.invokevirtual 51, 3) := by decide +kernel
theorem dX1_merge_20 : decode cX1_merge 20 = .ok (.invokevirtual 72, 3) := by decide +kernel
theorem dX1_merge_23 : decode cX1_merge 23 = .ok (.iinc 3 1, 3) := by decide +kernel
theorem dX1_merge_26 : decode cX1_merge 26 = .ok (.goto (-24), 3) := by decide +kernel
theorem dX1_merge_29 : decode cX1_merge 29 = .ok (.aload_n 0, 1) := by decide +kernel
theorem dX1_merge_30 : decode cX1_merge 30 = .ok (.getfield 25, 3) := by decide +kernel
theorem dX1_merge_33 : decode cX1_merge 33 = .ok (.iload_n 1, 1) := by decide +kernel
theorem dX1_merge_34 : decode cX1_merge 34 = .ok (.bipush 8, 2) := by decide +kernel
theorem dX1_merge_36 : decode cX1_merge 36 = .ok (.aload_n 0, 1) := by decide +kernel
theorem dX1_merge_37 : decode cX1_merge 37 = .ok (.getfield 25, 3) := by decide +kernel
theorem dX1_merge_40 : decode cX1_merge 40 = .ok (.iload_n 1, 1) := by decide +kernel
theorem dX1_merge_41 : decode cX1_merge 41 = .ok (.iaload, 1) := by decide +kernel
theorem dX1_merge_42 : decode cX1_merge 42 = .ok (.aload_n 0, 1) := by decide +kernel
theorem dX1_merge_43 : decode cX1_merge 43 = .ok (.getfield 25, 3) := by decide +kernel
theorem dX1_merge_46 : decode cX1_merge 46 = .ok (.iload_n 2, 1) := by decide +kernel
theorem dX1_merge_47 : decode cX1_merge 47 = .ok (.iaload, 1) := by decide +kernel
theorem dX1_merge_48 : decode cX1_merge 48 = .ok (.iadd, 1) := by decide +kernel
theorem dX1_merge_49 : decode cX1_merge 49 = .ok (.invokestatic 63, 3) := by decide +kernel
theorem dX1_merge_52 : decode cX1_merge 52 = .ok (.iastore, 1) := by decide +kernel
theorem dX1_merge_53 : decode cX1_merge 53 = .ok (.return_, 1) := by decide +kernel
theorem dX1_handOver_0 : decode cX1_handOver 0 = .ok (.iconst 0, 1) := by decide +kernel
theorem dX1_handOver_1 : decode cX1_handOver 1 = .ok (.istore_n 2, 1) := by decide +kernel
theorem dX1_handOver_2 : decode cX1_handOver 2 = .ok (.iload_n 2, 1) := by decide +kernel
theorem dX1_handOver_3 : decode cX1_handOver 3 = .ok (.aload_n 0, 1) := by decide +kernel
theorem dX1_handOver_4 : decode cX1_handOver 4 = .ok (.getfield 18, 3) := by decide +kernel
theorem dX1_handOver_7 : decode cX1_handOver 7 = .ok (.if_icmp .ge 30, 3) := by decide +kernel
theorem dX1_handOver_10 : decode cX1_handOver 10 = .ok (.aload_n 0, 1) := by decide +kernel
theorem dX1_handOver_11 : decode cX1_handOver 11 = .ok (.iload_n 2, 1) := by decide +kernel
theorem dX1_handOver_12 : decode cX1_handOver 12 = .ok (.iconst 0, 1) := by decide +kernel
theorem dX1_handOver_13 : decode cX1_handOver 13 = .ok (.aload_n 1, 1) := by decide +kernel
theorem dX1_handOver_14 : decode cX1_handOver 14 = .ok (.iload_n 2, 1) := by decide +kernel
theorem dX1_handOver_15 : decode cX1_handOver 15 = .ok (.iaload, 1) := by decide +kernel
theorem dX1_handOver_16 : decode cX1_handOver 16 = .ok (.invokevirtual 68, 3) := by decide +kernel
theorem dX1_handOver_19 : decode cX1_handOver 19 = .ok (.aload_n 0, 1) := by decide +kernel
theorem dX1_handOver_20 : decode cX1_handOver 20 = .ok (.getfield 25, 3) := by decide +kernel
theorem dX1_handOver_23 : decode cX1_handOver 23 = .ok (.iload_n 2, 1) := by decide +kernel
theorem dX1_handOver_24 : decode cX1_handOver 24 = .ok (.dup2, 1) := by decide +kernel
theorem dX1_handOver_25 : decode cX1_handOver 25 = .ok (.iaload, 1) := by decide +kernel
theorem dX1_handOver_26 : decode cX1_handOver 26 = .ok (.aload_n 1, 1) := by decide +kernel
theorem dX1_handOver_27 : decode cX1_handOver 27 = .ok (.iload_n 2, 1) := by decide +kernel
theorem dX1_handOver_28 : decode cX1_handOver 28 = .ok (.iaload, 1) := by decide +kernel
theorem dX1_handOver_29 : decode cX1_handOver 29 = .ok (.isub, 1) := by decide +kernel
theorem dX1_handOver_30 : decode cX1_handOver 30 = .ok (.iastore, 1) := by decide +kernel
theorem dX1_handOver_31 : decode cX1_handOver 31 = .ok (.iinc 2 1, 3) := by decide +kernel
theorem dX1_handOver_34 : decode cX1_handOver 34 = .ok (.goto (-32), 3) := by decide +kernel
theorem dX1_handOver_37 : decode cX1_handOver 37 = .ok (.return_, 1) := by decide +kernel
theorem dX1_shift_0 : decode cX1_shift 0 = .ok (.iconst 0, 1) := by decide +kernel
theorem dX1_shift_1 : decode cX1_shift 1 = .ok (.istore_n 3, 1) := by decide +kernel
theorem dX1_shift_2 : decode cX1_shift 2 = .ok (.iload_n 3, 1) := by decide +kernel
theorem dX1_shift_3 : decode cX1_shift 3 = .ok (.aload_n 0, 1) := by decide +kernel
theorem dX1_shift_4 : decode cX1_shift 4 = .ok (.getfield 21, 3) := by decide +kernel
theorem dX1_shift_7 : decode cX1_shift 7 = .ok (.iload_n 1, 1) := by decide +kernel
theorem dX1_shift_8 : decode cX1_shift 8 = .ok (.iaload, 1) := by decide +kernel
theorem dX1_shift_9 : decode cX1_shift 9 = .ok (.if_icmp .ge 30, 3) := by decide +kernel
theorem dX1_shift_12 : decode cX1_shift 12 = .ok (.aload_n 0, 1) := by decide +kernel
theorem dX1_shift_13 : decode cX1_shift 13 = .ok (.getfield 28, 3) := by decide +kernel
theorem dX1_shift_16 : decode cX1_shift 16 = .ok (.iload_n 1, 1) := by decide +kernel
theorem dX1_shift_17 : decode cX1_shift 17 = .ok (.bipush 8, 2) := by decide +kernel
theorem dX1_shift_19 : decode cX1_shift 19 = .ok (.imul, 1) := by decide +kernel
theorem dX1_shift_20 : decode cX1_shift 20 = .ok (.iload_n 3, 1) := by decide +kernel
theorem dX1_shift_21 : decode cX1_shift 21 = .ok (.iadd, 1) := by decide +kernel
theorem dX1_shift_22 : decode cX1_shift 22 = .ok (.aload_n 0, 1) := by decide +kernel
theorem dX1_shift_23 : decode cX1_shift 23 = .ok (.iload_n 1, 1) := by decide +kernel
theorem dX1_shift_24 : decode cX1_shift 24 = .ok (.iload_n 3, 1) := by decide +kernel
theorem dX1_shift_25 : decode cX1_shift 25 = .ok (.invokevirtual 51, 3) := by decide +kernel
theorem dX1_shift_28 : decode cX1_shift 28 = .ok (.iload_n 2, 1) := by decide +kernel
theorem dX1_shift_29 : decode cX1_shift 29 = .ok (.invokestatic 75, 3) := by decide +kernel
theorem dX1_shift_32 : decode cX1_shift 32 = .ok (.iastore, 1) := by decide +kernel
theorem dX1_shift_33 : decode cX1_shift 33 = .ok (.iinc 3 1, 3) := by decide +kernel
theorem dX1_shift_36 : decode cX1_shift 36 = .ok (.goto (-34), 3) := by decide +kernel
theorem dX1_shift_39 : decode cX1_shift 39 = .ok (.return_, 1) := by decide +kernel
theorem dX1_changedBy_0 : decode cX1_changedBy 0 = .ok (.iconst 0, 1) := by decide +kernel
theorem dX1_changedBy_1 : decode cX1_changedBy 1 = .ok (.istore_n 3, 1) := by decide +kernel
theorem dX1_changedBy_2 : decode cX1_changedBy 2 = .ok (.iconst 0, 1) := by decide +kernel
theorem dX1_changedBy_3 : decode cX1_changedBy 3 = .ok (.istore 4, 2) := by decide +kernel
theorem dX1_changedBy_5 : decode cX1_changedBy 5 = .ok (.iload 4, 2) := by decide +kernel
theorem dX1_changedBy_7 : decode cX1_changedBy 7 = .ok (.aload_n 0, 1) := by decide +kernel
theorem dX1_changedBy_8 : decode cX1_changedBy 8 = .ok (.getfield 21, 3) := by decide +kernel
theorem dX1_changedBy_11 : decode cX1_changedBy 11 = .ok (.iload_n 1, 1) := by decide +kernel
theorem dX1_changedBy_12 : decode cX1_changedBy 12 = .ok (.iaload, 1) := by decide +kernel
theorem dX1_changedBy_13 : decode cX1_changedBy 13 = .ok (.if_icmp .ge 33, 3) := by decide +kernel
theorem dX1_changedBy_16 : decode cX1_changedBy 16 = .ok (.aload_n 0, 1) := by decide +kernel
theorem dX1_changedBy_17 : decode cX1_changedBy 17 = .ok (.iload_n 1, 1) := by decide +kernel
theorem dX1_changedBy_18 : decode cX1_changedBy 18 = .ok (.iload 4, 2) := by decide +kernel
theorem dX1_changedBy_20 : decode cX1_changedBy 20 = .ok (.invokevirtual 51, 3) := by decide +kernel
theorem dX1_changedBy_23 : decode cX1_changedBy 23 = .ok (.iload_n 2, 1) := by decide +kernel
theorem dX1_changedBy_24 : decode cX1_changedBy 24 = .ok (.invokestatic 75, 3) := by decide +kernel
theorem dX1_changedBy_27 : decode cX1_changedBy 27 = .ok (.aload_n 0, 1) := by decide +kernel
theorem dX1_changedBy_28 : decode cX1_changedBy 28 = .ok (.iload_n 1, 1) := by decide +kernel
theorem dX1_changedBy_29 : decode cX1_changedBy 29 = .ok (.iload 4, 2) := by decide +kernel
theorem dX1_changedBy_31 : decode cX1_changedBy 31 = .ok (.invokevirtual 51, 3) := by decide +kernel
theorem dX1_changedBy_34 : decode cX1_changedBy 34 = .ok (.if_icmp .eq 6, 3) := by decide +kernel
theorem dX1_changedBy_37 : decode cX1_changedBy 37 = .ok (.iinc 3 1, 3) := by decide +kernel
theorem dX1_changedBy_40 : decode cX1_changedBy 40 = .ok (.iinc 4 1, 3) := by decide +kernel
theorem dX1_changedBy_43 : decode cX1_changedBy 43 = .ok (.goto (-38), 3) := by decide +kernel
theorem dX1_changedBy_46 : decode cX1_changedBy 46 = .ok (.iload_n 3, 1) := by decide +kernel
theorem dX1_changedBy_47 : decode cX1_changedBy 47 = .ok (.ireturn, 1) := by decide +kernel
theorem dX1_shifted_0 : decode cX1_shifted 0 = .ok (.iconst 0, 1) := by decide +kernel
theorem dX1_shifted_1 : decode cX1_shifted 1 = .ok (.bipush 99, 2) := by decide +kernel
theorem dX1_shifted_3 : decode cX1_shifted 3 = .ok (.iload_n 0, 1) := by decide +kernel
theorem dX1_shifted_4 : decode cX1_shifted 4 = .ok (.iload_n 1, 1) := by decide +kernel
theorem dX1_shifted_5 : decode cX1_shifted 5 = .ok (.iadd, 1) := by decide +kernel
theorem dX1_shifted_6 : decode cX1_shifted 6 = .ok (.invokestatic 63, 3) := by decide +kernel
theorem dX1_shifted_9 : decode cX1_shifted 9 = .ok (.invokestatic 78, 3) := by decide +kernel
theorem dX1_shifted_12 : decode cX1_shifted 12 = .ok (.ireturn, 1) := by decide +kernel
theorem dX1_valuesAbove_0 : decode cX1_valuesAbove 0 = .ok (.iconst 0, 1) := by decide +kernel
theorem dX1_valuesAbove_1 : decode cX1_valuesAbove 1 = .ok (.istore_n 3, 1) := by decide +kernel
theorem dX1_valuesAbove_2 : decode cX1_valuesAbove 2 = .ok (.iload_n 3, 1) := by decide +kernel
theorem dX1_valuesAbove_3 : decode cX1_valuesAbove 3 = .ok (.aload_n 0, 1) := by decide +kernel
theorem dX1_valuesAbove_4 : decode cX1_valuesAbove 4 = .ok (.getfield 21, 3) := by decide +kernel
theorem dX1_valuesAbove_7 : decode cX1_valuesAbove 7 = .ok (.iload_n 1, 1) := by decide +kernel
theorem dX1_valuesAbove_8 : decode cX1_valuesAbove 8 = .ok (.iaload, 1) := by decide +kernel
theorem dX1_valuesAbove_9 : decode cX1_valuesAbove 9 = .ok (.if_icmp .ge 19, 3) := by decide +kernel
theorem dX1_valuesAbove_12 : decode cX1_valuesAbove 12 = .ok (.aload_n 0, 1) := by decide +kernel
theorem dX1_valuesAbove_13 : decode cX1_valuesAbove 13 = .ok (.iload_n 1, 1) := by decide +kernel
theorem dX1_valuesAbove_14 : decode cX1_valuesAbove 14 = .ok (.iload_n 3, 1) := by decide +kernel
theorem dX1_valuesAbove_15 : decode cX1_valuesAbove 15 = .ok (.invokevirtual 51, 3) := by decide +kernel
theorem dX1_valuesAbove_18 : decode cX1_valuesAbove 18 = .ok (.iload_n 2, 1) := by decide +kernel
theorem dX1_valuesAbove_19 : decode cX1_valuesAbove 19 = .ok (.if_icmp .le 9, 3) := by decide +kernel
theorem dX1_valuesAbove_22 : decode cX1_valuesAbove 22 = .ok (.iinc 3 1, 3) := by decide +kernel
theorem dX1_valuesAbove_25 : decode cX1_valuesAbove 25 = .ok (.goto (-23), 3) := by decide +kernel
theorem dX1_valuesAbove_28 : decode cX1_valuesAbove 28 = .ok (.iload_n 3, 1) := by decide +kernel
theorem dX1_valuesAbove_29 : decode cX1_valuesAbove 29 = .ok (.ireturn, 1) := by decide +kernel
theorem dX1_wantsOf_0 : decode cX1_wantsOf 0 = .ok (.aload_n 0, 1) := by decide +kernel
theorem dX1_wantsOf_1 : decode cX1_wantsOf 1 = .ok (.getfield 25, 3) := by decide +kernel
theorem dX1_wantsOf_4 : decode cX1_wantsOf 4 = .ok (.iload_n 1, 1) := by decide +kernel
theorem dX1_wantsOf_5 : decode cX1_wantsOf 5 = .ok (.iaload, 1) := by decide +kernel
theorem dX1_wantsOf_6 : decode cX1_wantsOf 6 = .ok (.aload_n 0, 1) := by decide +kernel
theorem dX1_wantsOf_7 : decode cX1_wantsOf 7 = .ok (.iload_n 1, 1) := by decide +kernel
theorem dX1_wantsOf_8 : decode cX1_wantsOf 8 = .ok (.iload_n 2, 1) := by decide +kernel
theorem dX1_wantsOf_9 : decode cX1_wantsOf 9 = .ok (.invokevirtual 81, 3) := by decide +kernel
theorem dX1_wantsOf_12 : decode cX1_wantsOf 12 = .ok (.invokestatic 63, 3) := by decide +kernel
theorem dX1_wantsOf_15 : decode cX1_wantsOf 15 = .ok (.ireturn, 1) := by decide +kernel
theorem dX1_takesOf_0 : decode cX1_takesOf 0 = .ok (.aload_n 0, 1) := by decide +kernel
theorem dX1_takesOf_1 : decode cX1_takesOf 1 = .ok (.getfield 25, 3) := by decide +kernel
theorem dX1_takesOf_4 : decode cX1_takesOf 4 = .ok (.iload_n 1, 1) := by decide +kernel
theorem dX1_takesOf_5 : decode cX1_takesOf 5 = .ok (.iaload, 1) := by decide +kernel
theorem dX1_takesOf_6 : decode cX1_takesOf 6 = .ok (.aload_n 0, 1) := by decide +kernel
theorem dX1_takesOf_7 : decode cX1_takesOf 7 = .ok (.iload_n 1, 1) := by decide +kernel
theorem dX1_takesOf_8 : decode cX1_takesOf 8 = .ok (.iload_n 2, 1) := by decide +kernel
theorem dX1_takesOf_9 : decode cX1_takesOf 9 = .ok (.iconst 1, 1) := by decide +kernel
theorem dX1_takesOf_10 : decode cX1_takesOf 10 = .ok (.isub, 1) := by decide +kernel
theorem dX1_takesOf_11 : decode cX1_takesOf 11 = .ok (.invokevirtual 81, 3) := by decide +kernel
theorem dX1_takesOf_14 : decode cX1_takesOf 14 = .ok (.invokestatic 63, 3) := by decide +kernel
theorem dX1_takesOf_17 : decode cX1_takesOf 17 = .ok (.ireturn, 1) := by decide +kernel
theorem dX1_wantsOfAll_0 : decode cX1_wantsOfAll 0 = .ok (.iconst 0, 1) := by decide +kernel
theorem dX1_wantsOfAll_1 : decode cX1_wantsOfAll 1 = .ok (.istore_n 2, 1) := by decide +kernel
theorem dX1_wantsOfAll_2 : decode cX1_wantsOfAll 2 = .ok (.iconst 0, 1) := by decide +kernel
theorem dX1_wantsOfAll_3 : decode cX1_wantsOfAll 3 = .ok (.istore_n 3, 1) := by decide +kernel
theorem dX1_wantsOfAll_4 : decode cX1_wantsOfAll 4 = .ok (.iload_n 3, 1) := by decide +kernel
theorem dX1_wantsOfAll_5 : decode cX1_wantsOfAll 5 = .ok (.aload_n 0, 1) := by decide +kernel
theorem dX1_wantsOfAll_6 : decode cX1_wantsOfAll 6 = .ok (.getfield 18, 3) := by decide +kernel
theorem dX1_wantsOfAll_9 : decode cX1_wantsOfAll 9 = .ok (.if_icmp .ge 18, 3) := by decide +kernel
theorem dX1_wantsOfAll_12 : decode cX1_wantsOfAll 12 = .ok (.iload_n 2, 1) := by decide +kernel
theorem dX1_wantsOfAll_13 : decode cX1_wantsOfAll 13 = .ok (.aload_n 0, 1) := by decide +kernel
theorem dX1_wantsOfAll_14 : decode cX1_wantsOfAll 14 = .ok (.iload_n 3, 1) := by decide +kernel
theorem dX1_wantsOfAll_15 : decode cX1_wantsOfAll 15 = .ok (.iload_n 1, 1) := by decide +kernel
theorem dX1_wantsOfAll_16 : decode cX1_wantsOfAll 16 = .ok (.invokevirtual 84, 3) := by decide +kernel
theorem dX1_wantsOfAll_19 : decode cX1_wantsOfAll 19 = .ok (.iadd, 1) := by decide +kernel
theorem dX1_wantsOfAll_20 : decode cX1_wantsOfAll 20 = .ok (.istore_n 2, 1) := by decide +kernel
theorem dX1_wantsOfAll_21 : decode cX1_wantsOfAll 21 = .ok (.iinc 3 1, 3) := by decide +kernel
theorem dX1_wantsOfAll_24 : decode cX1_wantsOfAll 24 = .ok (.goto (-20), 3) := by decide +kernel
theorem dX1_wantsOfAll_27 : decode cX1_wantsOfAll 27 = .ok (.iload_n 2, 1) := by decide +kernel
theorem dX1_wantsOfAll_28 : decode cX1_wantsOfAll 28 = .ok (.ireturn, 1) := by decide +kernel
theorem dX1_freeFor_0 : decode cX1_freeFor 0 = .ok (.iconst 0, 1) := by decide +kernel
theorem dX1_freeFor_1 : decode cX1_freeFor 1 = .ok (.aload_n 0, 1) := by decide +kernel
theorem dX1_freeFor_2 : decode cX1_freeFor 2 = .ok (.getfield 9, 3) := by decide +kernel
theorem dX1_freeFor_5 : decode cX1_freeFor 5 = .ok (.aload_n 0, 1) := by decide +kernel
theorem dX1_freeFor_6 : decode cX1_freeFor 6 = .ok (.iload_n 2, 1) := by decide +kernel
theorem dX1_freeFor_7 : decode cX1_freeFor 7 = .ok (.invokevirtual 87, 3) := by decide +kernel
theorem dX1_freeFor_10 : decode cX1_freeFor 10 = .ok (.aload_n 0, 1) := by decide +kernel
theorem dX1_freeFor_11 : decode cX1_freeFor 11 = .ok (.iload_n 1, 1) := by decide +kernel
theorem dX1_freeFor_12 : decode cX1_freeFor 12 = .ok (.iload_n 2, 1) := by decide +kernel
theorem dX1_freeFor_13 : decode cX1_freeFor 13 = .ok (.invokevirtual 84, 3) := by decide +kernel
theorem dX1_freeFor_16 : decode cX1_freeFor 16 = .ok (.isub, 1) := by decide +kernel
theorem dX1_freeFor_17 : decode cX1_freeFor 17 = .ok (.isub, 1) := by decide +kernel
theorem dX1_freeFor_18 : decode cX1_freeFor 18 = .ok (.invokestatic 78, 3) := by decide +kernel
theorem dX1_freeFor_21 : decode cX1_freeFor 21 = .ok (.ireturn, 1) := by decide +kernel
theorem dX1_wantingAt_0 : decode cX1_wantingAt 0 = .ok (.iconst 0, 1) := by decide +kernel
theorem dX1_wantingAt_1 : decode cX1_wantingAt 1 = .ok (.istore_n 2, 1) := by decide +kernel
theorem dX1_wantingAt_2 : decode cX1_wantingAt 2 = .ok (.iconst 0, 1) := by decide +kernel
theorem dX1_wantingAt_3 : decode cX1_wantingAt 3 = .ok (.istore_n 3, 1) := by decide +kernel
theorem dX1_wantingAt_4 : decode cX1_wantingAt 4 = .ok (.iload_n 3, 1) := by decide +kernel
theorem dX1_wantingAt_5 : decode cX1_wantingAt 5 = .ok (.aload_n 0, 1) := by decide +kernel
theorem dX1_wantingAt_6 : decode cX1_wantingAt 6 = .ok (.getfield 18, 3) := by decide +kernel
theorem dX1_wantingAt_9 : decode cX1_wantingAt 9 = .ok (.if_icmp .ge 21, 3) := by decide +kernel
theorem dX1_wantingAt_12 : decode cX1_wantingAt 12 = .ok (.aload_n 0, 1) := by decide +kernel
theorem dX1_wantingAt_13 : decode cX1_wantingAt 13 = .ok (.iload_n 3, 1) := by decide +kernel
theorem dX1_wantingAt_14 : decode cX1_wantingAt 14 = .ok (.iload_n 1, 1) := by decide +kernel
theorem dX1_wantingAt_15 : decode cX1_wantingAt 15 = .ok (.invokevirtual 84, 3) := by decide +kernel
theorem dX1_wantingAt_18 : decode cX1_wantingAt 18 = .ok (.ifCond .le 6, 3) := by decide +kernel
theorem dX1_wantingAt_21 : decode cX1_wantingAt 21 = .ok (.iinc 2 1, 3) := by decide +kernel
theorem dX1_wantingAt_24 : decode cX1_wantingAt 24 = .ok (.iinc 3 1, 3) := by decide +kernel
theorem dX1_wantingAt_27 : decode cX1_wantingAt 27 = .ok (.goto (-23), 3) := by decide +kernel
theorem dX1_wantingAt_30 : decode cX1_wantingAt 30 = .ok (.iload_n 2, 1) := by decide +kernel
theorem dX1_wantingAt_31 : decode cX1_wantingAt 31 = .ok (.ireturn, 1) := by decide +kernel
theorem dX1_stepPrice_0 : decode cX1_stepPrice 0 = .ok (.iload_n 1, 1) := by decide +kernel
theorem dX1_stepPrice_1 : decode cX1_stepPrice 1 = .ok (.istore_n 2, 1) := by decide +kernel
theorem dX1_stepPrice_2 : decode cX1_stepPrice 2 = .ok (.aload_n 0, 1) := by decide +kernel
theorem dX1_stepPrice_3 : decode cX1_stepPrice 3 = .ok (.invokevirtual 91, 3) := by decide +kernel
theorem dX1_stepPrice_6 : decode cX1_stepPrice 6 = .ok (.istore_n 3, 1) := by decide +kernel
theorem dX1_stepPrice_7 : decode cX1_stepPrice 7 = .ok (.iconst 0, 1) := by decide +kernel
theorem dX1_stepPrice_8 : decode cX1_stepPrice 8 = .ok (.istore 4, 2) := by decide +kernel
theorem dX1_stepPrice_10 : decode cX1_stepPrice 10 = .ok (.iload 4, 2) := by decide +kernel
theorem dX1_stepPrice_12 : decode cX1_stepPrice 12 = .ok (.bipush 99, 2) := by decide +kernel
theorem dX1_stepPrice_14 : decode cX1_stepPrice 14 = .ok (.if_icmp .gt 42, 3) := by decide +kernel
theorem dX1_stepPrice_17 : decode cX1_stepPrice 17 = .ok (.aload_n 0, 1) := by decide +kernel
theorem dX1_stepPrice_18 : decode cX1_stepPrice 18 = .ok (.iload 4, 2) := by decide +kernel
theorem dX1_stepPrice_20 : decode cX1_stepPrice 20 = .ok (.invokevirtual 87, 3) := by decide +kernel
theorem dX1_stepPrice_23 : decode cX1_stepPrice 23 = .ok (.istore 5, 2) := by decide +kernel
theorem dX1_stepPrice_25 : decode cX1_stepPrice 25 = .ok (.iload 5, 2) := by decide +kernel
theorem dX1_stepPrice_27 : decode cX1_stepPrice 27 = .ok (.iload_n 3, 1) := by decide +kernel
theorem dX1_stepPrice_28 : decode cX1_stepPrice 28 = .ok (.if_icmp .ge 10, 3) := by decide +kernel
theorem dX1_stepPrice_31 : decode cX1_stepPrice 31 = .ok (.iload_n 2, 1) := by decide +kernel
theorem dX1_stepPrice_32 : decode cX1_stepPrice 32 = .ok (.ifCond .ne 6, 3) := by decide +kernel
theorem dX1_stepPrice_35 : decode cX1_stepPrice 35 = .ok (.iload 4, 2) := by decide +kernel
theorem dX1_stepPrice_37 : decode cX1_stepPrice 37 = .ok (.ireturn, 1) := by decide +kernel
theorem dX1_stepPrice_38 : decode cX1_stepPrice 38 = .ok (.iload 5, 2) := by decide +kernel
theorem dX1_stepPrice_40 : decode cX1_stepPrice 40 = .ok (.iload_n 3, 1) := by decide +kernel
theorem dX1_stepPrice_41 : decode cX1_stepPrice 41 = .ok (.if_icmp .ge 6, 3) := by decide +kernel
theorem dX1_stepPrice_44 : decode cX1_stepPrice 44 = .ok (.iinc 2 (-1), 3) := by decide +kernel
theorem dX1_stepPrice_47 : decode cX1_stepPrice 47 = .ok (.iload 5, 2) := by decide +kernel
theorem dX1_stepPrice_49 : decode cX1_stepPrice 49 = .ok (.istore_n 3, 1) := by decide +kernel
theorem dX1_stepPrice_50 : decode cX1_stepPrice 50 = .ok (.iinc 4 1, 3) := by decide +kernel
theorem dX1_stepPrice_53 : decode cX1_stepPrice 53 = .ok (.goto (-43), 3) := by decide +kernel
theorem dX1_stepPrice_56 : decode cX1_stepPrice 56 = .ok (.iconst (-1), 1) := by decide +kernel
theorem dX1_stepPrice_57 : decode cX1_stepPrice 57 = .ok (.ireturn, 1) := by decide +kernel
theorem dX1_usable_0 : decode cX1_usable 0 = .ok (.aload_n 0, 1) := by decide +kernel
theorem dX1_usable_1 : decode cX1_usable 1 = .ok (.getfield 21, 3) := by decide +kernel
theorem dX1_usable_4 : decode cX1_usable 4 = .ok (.iload_n 1, 1) := by decide +kernel
theorem dX1_usable_5 : decode cX1_usable 5 = .ok (.iaload, 1) := by decide +kernel
theorem dX1_usable_6 : decode cX1_usable 6 = .ok (.aload_n 0, 1) := by decide +kernel
theorem dX1_usable_7 : decode cX1_usable 7 = .ok (.getfield 25, 3) := by decide +kernel
theorem dX1_usable_10 : decode cX1_usable 10 = .ok (.iload_n 1, 1) := by decide +kernel
theorem dX1_usable_11 : decode cX1_usable 11 = .ok (.iaload, 1) := by decide +kernel
theorem dX1_usable_12 : decode cX1_usable 12 = .ok (.invokestatic 63, 3) := by decide +kernel
theorem dX1_usable_15 : decode cX1_usable 15 = .ok (.ireturn, 1) := by decide +kernel
theorem dX1_usableByAll_0 : decode cX1_usableByAll 0 = .ok (.iconst 0, 1) := by decide +kernel
theorem dX1_usableByAll_1 : decode cX1_usableByAll 1 = .ok (.istore_n 1, 1) := by decide +kernel
theorem dX1_usableByAll_2 : decode cX1_usableByAll 2 = .ok (.iconst 0, 1) := by decide +kernel
theorem dX1_usableByAll_3 : decode cX1_usableByAll 3 = .ok (.istore_n 2, 1) := by decide +kernel
theorem dX1_usableByAll_4 : decode cX1_usableByAll 4 = .ok (.iload_n 2, 1) := by decide +kernel
theorem dX1_usableByAll_5 : decode cX1_usableByAll 5 = .ok (.aload_n 0, 1) := by decide +kernel
theorem dX1_usableByAll_6 : decode cX1_usableByAll 6 = .ok (.getfield 18, 3) := by decide +kernel
theorem dX1_usableByAll_9 : decode cX1_usableByAll 9 = .ok (.if_icmp .ge 17, 3) := by decide +kernel
theorem dX1_usableByAll_12 : decode cX1_usableByAll 12 = .ok (.iload_n 1, 1) := by decide +kernel
theorem dX1_usableByAll_13 : decode cX1_usableByAll 13 = .ok (.aload_n 0, 1) := by decide +kernel
theorem dX1_usableByAll_14 : decode cX1_usableByAll 14 = .ok (.iload_n 2, 1) := by decide +kernel
theorem dX1_usableByAll_15 : decode cX1_usableByAll 15 = .ok (.invokevirtual 94, 3) := by decide +kernel
theorem dX1_usableByAll_18 : decode cX1_usableByAll 18 = .ok (.iadd, 1) := by decide +kernel
theorem dX1_usableByAll_19 : decode cX1_usableByAll 19 = .ok (.istore_n 1, 1) := by decide +kernel
theorem dX1_usableByAll_20 : decode cX1_usableByAll 20 = .ok (.iinc 2 1, 3) := by decide +kernel
theorem dX1_usableByAll_23 : decode cX1_usableByAll 23 = .ok (.goto (-19), 3) := by decide +kernel
theorem dX1_usableByAll_26 : decode cX1_usableByAll 26 = .ok (.iload_n 1, 1) := by decide +kernel
theorem dX1_usableByAll_27 : decode cX1_usableByAll 27 = .ok (.ireturn, 1) := by decide +kernel
theorem dX1_sumOfFirst_0 : decode cX1_sumOfFirst 0 = .ok (.iconst 0, 1) := by decide +kernel
theorem dX1_sumOfFirst_1 : decode cX1_sumOfFirst 1 = .ok (.istore_n 3, 1) := by decide +kernel
theorem dX1_sumOfFirst_2 : decode cX1_sumOfFirst 2 = .ok (.iconst 0, 1) := by decide +kernel
theorem dX1_sumOfFirst_3 : decode cX1_sumOfFirst 3 = .ok (.istore 4, 2) := by decide +kernel
theorem dX1_sumOfFirst_5 : decode cX1_sumOfFirst 5 = .ok (.iload 4, 2) := by decide +kernel
theorem dX1_sumOfFirst_7 : decode cX1_sumOfFirst 7 = .ok (.iload_n 2, 1) := by decide +kernel
theorem dX1_sumOfFirst_8 : decode cX1_sumOfFirst 8 = .ok (.if_icmp .ge 30, 3) := by decide +kernel
theorem dX1_sumOfFirst_11 : decode cX1_sumOfFirst 11 = .ok (.iload 4, 2) := by decide +kernel
theorem dX1_sumOfFirst_13 : decode cX1_sumOfFirst 13 = .ok (.aload_n 0, 1) := by decide +kernel
theorem dX1_sumOfFirst_14 : decode cX1_sumOfFirst 14 = .ok (.getfield 21, 3) := by decide +kernel
theorem dX1_sumOfFirst_17 : decode cX1_sumOfFirst 17 = .ok (.iload_n 1, 1) := by decide +kernel
theorem dX1_sumOfFirst_18 : decode cX1_sumOfFirst 18 = .ok (.iaload, 1) := by decide +kernel
theorem dX1_sumOfFirst_19 : decode cX1_sumOfFirst 19 = .ok (.if_icmp .ge 19, 3) := by decide +kernel
theorem dX1_sumOfFirst_22 : decode cX1_sumOfFirst 22 = .ok (.iload_n 3, 1) := by decide +kernel
theorem dX1_sumOfFirst_23 : decode cX1_sumOfFirst 23 = .ok (.aload_n 0, 1) := by decide +kernel
theorem dX1_sumOfFirst_24 : decode cX1_sumOfFirst 24 = .ok (.iload_n 1, 1) := by decide +kernel
theorem dX1_sumOfFirst_25 : decode cX1_sumOfFirst 25 = .ok (.iload 4, 2) := by decide +kernel
theorem dX1_sumOfFirst_27 : decode cX1_sumOfFirst 27 = .ok (.invokevirtual 51, 3) := by decide +kernel
theorem dX1_sumOfFirst_30 : decode cX1_sumOfFirst 30 = .ok (.iadd, 1) := by decide +kernel
theorem dX1_sumOfFirst_31 : decode cX1_sumOfFirst 31 = .ok (.istore_n 3, 1) := by decide +kernel
theorem dX1_sumOfFirst_32 : decode cX1_sumOfFirst 32 = .ok (.iinc 4 1, 3) := by decide +kernel
theorem dX1_sumOfFirst_35 : decode cX1_sumOfFirst 35 = .ok (.goto (-30), 3) := by decide +kernel
theorem dX1_sumOfFirst_38 : decode cX1_sumOfFirst 38 = .ok (.iload_n 3, 1) := by decide +kernel
theorem dX1_sumOfFirst_39 : decode cX1_sumOfFirst 39 = .ok (.ireturn, 1) := by decide +kernel
theorem dX1_valuesOfAll_0 : decode cX1_valuesOfAll 0 = .ok (.iconst 0, 1) := by decide +kernel
theorem dX1_valuesOfAll_1 : decode cX1_valuesOfAll 1 = .ok (.istore_n 1, 1) := by decide +kernel
theorem dX1_valuesOfAll_2 : decode cX1_valuesOfAll 2 = .ok (.iconst 0, 1) := by decide +kernel
theorem dX1_valuesOfAll_3 : decode cX1_valuesOfAll 3 = .ok (.istore_n 2, 1) := by decide +kernel
theorem dX1_valuesOfAll_4 : decode cX1_valuesOfAll 4 = .ok (.iload_n 2, 1) := by decide +kernel
theorem dX1_valuesOfAll_5 : decode cX1_valuesOfAll 5 = .ok (.aload_n 0, 1) := by decide +kernel
theorem dX1_valuesOfAll_6 : decode cX1_valuesOfAll 6 = .ok (.getfield 18, 3) := by decide +kernel
theorem dX1_valuesOfAll_9 : decode cX1_valuesOfAll 9 = .ok (.if_icmp .ge 18, 3) := by decide +kernel
theorem dX1_valuesOfAll_12 : decode cX1_valuesOfAll 12 = .ok (.iload_n 1, 1) := by decide +kernel
theorem dX1_valuesOfAll_13 : decode cX1_valuesOfAll 13 = .ok (.aload_n 0, 1) := by decide +kernel
theorem dX1_valuesOfAll_14 : decode cX1_valuesOfAll 14 = .ok (.getfield 21, 3) := by decide +kernel
theorem dX1_valuesOfAll_17 : decode cX1_valuesOfAll 17 = .ok (.iload_n 2, 1) := by decide +kernel
theorem dX1_valuesOfAll_18 : decode cX1_valuesOfAll 18 = .ok (.iaload, 1) := by decide +kernel
theorem dX1_valuesOfAll_19 : decode cX1_valuesOfAll 19 = .ok (.iadd, 1) := by decide +kernel
theorem dX1_valuesOfAll_20 : decode cX1_valuesOfAll 20 = .ok (.istore_n 1, 1) := by decide +kernel
theorem dX1_valuesOfAll_21 : decode cX1_valuesOfAll 21 = .ok (.iinc 2 1, 3) := by decide +kernel
theorem dX1_valuesOfAll_24 : decode cX1_valuesOfAll 24 = .ok (.goto (-20), 3) := by decide +kernel
theorem dX1_valuesOfAll_27 : decode cX1_valuesOfAll 27 = .ok (.iload_n 1, 1) := by decide +kernel
theorem dX1_valuesOfAll_28 : decode cX1_valuesOfAll 28 = .ok (.ireturn, 1) := by decide +kernel
theorem dX1_biddersWithoutValues_0 : decode cX1_biddersWithoutValues 0 = .ok (.iconst 0, 1) := by decide +kernel
theorem dX1_biddersWithoutValues_1 : decode cX1_biddersWithoutValues 1 = .ok (.istore_n 1, 1) := by decide +kernel
theorem dX1_biddersWithoutValues_2 : decode cX1_biddersWithoutValues 2 = .ok (.iconst 0, 1) := by decide +kernel
theorem dX1_biddersWithoutValues_3 : decode cX1_biddersWithoutValues 3 = .ok (.istore_n 2, 1) := by decide +kernel
theorem dX1_biddersWithoutValues_4 : decode cX1_biddersWithoutValues 4 = .ok (.iload_n 2, 1) := by decide +kernel
theorem dX1_biddersWithoutValues_5 : decode cX1_biddersWithoutValues 5 = .ok (.aload_n 0, 1) := by decide +kernel
theorem dX1_biddersWithoutValues_6 : decode cX1_biddersWithoutValues 6 = .ok (.getfield 18, 3) := by decide +kernel
theorem dX1_biddersWithoutValues_9 : decode cX1_biddersWithoutValues 9 = .ok (.if_icmp .ge 21, 3) := by decide +kernel
theorem dX1_biddersWithoutValues_12 : decode cX1_biddersWithoutValues 12 = .ok (.aload_n 0, 1) := by decide +kernel
theorem dX1_biddersWithoutValues_13 : decode cX1_biddersWithoutValues 13 = .ok (.getfield 21, 3) := by decide +kernel
theorem dX1_biddersWithoutValues_16 : decode cX1_biddersWithoutValues 16 = .ok (.iload_n 2, 1) := by decide +kernel
theorem dX1_biddersWithoutValues_17 : decode cX1_biddersWithoutValues 17 = .ok (.iaload, 1) := by decide +kernel
theorem dX1_biddersWithoutValues_18 : decode cX1_biddersWithoutValues 18 = .ok (.ifCond .ne 6, 3) := by decide +kernel
theorem dX1_biddersWithoutValues_21 : decode cX1_biddersWithoutValues 21 = .ok (.iinc 1 1, 3) := by decide +kernel
theorem dX1_biddersWithoutValues_24 : decode cX1_biddersWithoutValues 24 = .ok (.iinc 2 1, 3) := by decide +kernel
theorem dX1_biddersWithoutValues_27 : decode cX1_biddersWithoutValues 27 = .ok (.goto (-23), 3) := by decide +kernel
theorem dX1_biddersWithoutValues_30 : decode cX1_biddersWithoutValues 30 = .ok (.iload_n 1, 1) := by decide +kernel
theorem dX1_biddersWithoutValues_31 : decode cX1_biddersWithoutValues 31 = .ok (.ireturn, 1) := by decide +kernel
theorem dX1_areAlike_0 : decode cX1_areAlike 0 = .ok (.aload_n 0, 1) := by decide +kernel
theorem dX1_areAlike_1 : decode cX1_areAlike 1 = .ok (.getfield 21, 3) := by decide +kernel
theorem dX1_areAlike_4 : decode cX1_areAlike 4 = .ok (.iload_n 1, 1) := by decide +kernel
theorem dX1_areAlike_5 : decode cX1_areAlike 5 = .ok (.iaload, 1) := by decide +kernel
theorem dX1_areAlike_6 : decode cX1_areAlike 6 = .ok (.aload_n 0, 1) := by decide +kernel
theorem dX1_areAlike_7 : decode cX1_areAlike 7 = .ok (.getfield 21, 3) := by decide +kernel
theorem dX1_areAlike_10 : decode cX1_areAlike 10 = .ok (.iload_n 2, 1) := by decide +kernel
theorem dX1_areAlike_11 : decode cX1_areAlike 11 = .ok (.iaload, 1) := by decide +kernel
theorem dX1_areAlike_12 : decode cX1_areAlike 12 = .ok (.if_icmp .ne 18, 3) := by decide +kernel
theorem dX1_areAlike_15 : decode cX1_areAlike 15 = .ok (.aload_n 0, 1) := by decide +kernel
theorem dX1_areAlike_16 : decode cX1_areAlike 16 = .ok (.getfield 25, 3) := by decide +kernel
theorem dX1_areAlike_19 : decode cX1_areAlike 19 = .ok (.iload_n 1, 1) := by decide +kernel
theorem dX1_areAlike_20 : decode cX1_areAlike 20 = .ok (.iaload, 1) := by decide +kernel
theorem dX1_areAlike_21 : decode cX1_areAlike 21 = .ok (.aload_n 0, 1) := by decide +kernel
theorem dX1_areAlike_22 : decode cX1_areAlike 22 = .ok (.getfield 25, 3) := by decide +kernel
theorem dX1_areAlike_25 : decode cX1_areAlike 25 = .ok (.iload_n 2, 1) := by decide +kernel
theorem dX1_areAlike_26 : decode cX1_areAlike 26 = .ok (.iaload, 1) := by decide +kernel
theorem dX1_areAlike_27 : decode cX1_areAlike 27 = .ok (.if_icmp .eq 5, 3) := by decide +kernel
theorem dX1_areAlike_30 : decode cX1_areAlike 30 = .ok (.iconst 0, 1) := by decide +kernel
theorem dX1_areAlike_31 : decode cX1_areAlike 31 = .ok (.ireturn, 1) := by decide +kernel
theorem dX1_areAlike_32 : decode cX1_areAlike 32 = .ok (.iconst 0, 1) := by decide +kernel
theorem dX1_areAlike_33 : decode cX1_areAlike 33 = .ok (.istore_n 3, 1) := by decide +kernel
theorem dX1_areAlike_34 : decode cX1_areAlike 34 = .ok (.iload_n 3, 1) := by decide +kernel
theorem dX1_areAlike_35 : decode cX1_areAlike 35 = .ok (.aload_n 0, 1) := by decide +kernel
theorem dX1_areAlike_36 : decode cX1_areAlike 36 = .ok (.getfield 21, 3) := by decide +kernel
theorem dX1_areAlike_39 : decode cX1_areAlike 39 = .ok (.iload_n 1, 1) := by decide +kernel
theorem dX1_areAlike_40 : decode cX1_areAlike 40 = .ok (.iaload, 1) := by decide +kernel
theorem dX1_areAlike_41 : decode cX1_areAlike 41 = .ok (.if_icmp .ge 26, 3) := by decide +kernel
theorem dX1_areAlike_44 : decode cX1_areAlike 44 = .ok (.aload_n 0, 1) := by decide +kernel
theorem dX1_areAlike_45 : decode cX1_areAlike 45 = .ok (.iload_n 1, 1) := by decide +kernel
theorem dX1_areAlike_46 : decode cX1_areAlike 46 = .ok (.iload_n 3, 1) := by decide +kernel
theorem dX1_areAlike_47 : decode cX1_areAlike 47 = .ok (.invokevirtual 51, 3) := by decide +kernel
theorem dX1_areAlike_50 : decode cX1_areAlike 50 = .ok (.aload_n 0, 1) := by decide +kernel
theorem dX1_areAlike_51 : decode cX1_areAlike 51 = .ok (.iload_n 2, 1) := by decide +kernel
theorem dX1_areAlike_52 : decode cX1_areAlike 52 = .ok (.iload_n 3, 1) := by decide +kernel
theorem dX1_areAlike_53 : decode cX1_areAlike 53 = .ok (.invokevirtual 51, 3) := by decide +kernel
theorem dX1_areAlike_56 : decode cX1_areAlike 56 = .ok (.if_icmp .eq 5, 3) := by decide +kernel
theorem dX1_areAlike_59 : decode cX1_areAlike 59 = .ok (.iconst 0, 1) := by decide +kernel
theorem dX1_areAlike_60 : decode cX1_areAlike 60 = .ok (.ireturn, 1) := by decide +kernel
theorem dX1_areAlike_61 : decode cX1_areAlike 61 = .ok (.iinc 3 1, 3) := by decide +kernel
theorem dX1_areAlike_64 : decode cX1_areAlike 64 = .ok (.goto (-30), 3) := by decide +kernel
theorem dX1_areAlike_67 : decode cX1_areAlike 67 = .ok (.iconst 1, 1) := by decide +kernel
theorem dX1_areAlike_68 : decode cX1_areAlike 68 = .ok (.ireturn, 1) := by decide +kernel
theorem dX1_rankedOwner_0 : decode cX1_rankedOwner 0 = .ok (.iconst 0, 1) := by decide +kernel
theorem dX1_rankedOwner_1 : decode cX1_rankedOwner 1 = .ok (.istore_n 2, 1) := by decide +kernel
theorem dX1_rankedOwner_2 : decode cX1_rankedOwner 2 = .ok (.iload_n 2, 1) := by decide +kernel
theorem dX1_rankedOwner_3 : decode cX1_rankedOwner 3 = .ok (.aload_n 0, 1) := by decide +kernel
theorem dX1_rankedOwner_4 : decode cX1_rankedOwner 4 = .ok (.getfield 18, 3) := by decide +kernel
theorem dX1_rankedOwner_7 : decode cX1_rankedOwner 7 = .ok (.if_icmp .ge 28, 3) := by decide +kernel
theorem dX1_rankedOwner_10 : decode cX1_rankedOwner 10 = .ok (.aload_n 0, 1) := by decide +kernel
theorem dX1_rankedOwner_11 : decode cX1_rankedOwner 11 = .ok (.getfield 31, 3) := by decide +kernel
theorem dX1_rankedOwner_14 : decode cX1_rankedOwner 14 = .ok (.iload_n 2, 1) := by decide +kernel
theorem dX1_rankedOwner_15 : decode cX1_rankedOwner 15 = .ok (.iconst 0, 1) := by decide +kernel
theorem dX1_rankedOwner_16 : decode cX1_rankedOwner 16 = .ok (.iastore, 1) := by decide +kernel
theorem dX1_rankedOwner_17 : decode cX1_rankedOwner 17 = .ok (.aload_n 0, 1) := by decide +kernel
theorem dX1_rankedOwner_18 : decode cX1_rankedOwner 18 = .ok (.getfield 34, 3) := by decide +kernel
theorem dX1_rankedOwner_21 : decode cX1_rankedOwner 21 = .ok (.iload_n 2, 1) := by decide +kernel
theorem dX1_rankedOwner_22 : decode cX1_rankedOwner 22 = .ok (.aload_n 0, 1) := by decide +kernel
theorem dX1_rankedOwner_23 : decode cX1_rankedOwner 23 = .ok (.getfield 21, 3) := by decide +kernel
theorem dX1_rankedOwner_26 : decode cX1_rankedOwner 26 = .ok (.iload_n 2, 1) := by decide +kernel
theorem dX1_rankedOwner_27 : decode cX1_rankedOwner 27 = .ok (.iaload, 1) := by decide +kernel
theorem dX1_rankedOwner_28 : decode cX1_rankedOwner 28 = .ok (.iastore, 1) := by decide +kernel
theorem dX1_rankedOwner_29 : decode cX1_rankedOwner 29 = .ok (.iinc 2 1, 3) := by decide +kernel
theorem dX1_rankedOwner_32 : decode cX1_rankedOwner 32 = .ok (.goto (-30), 3) := by decide +kernel
theorem dX1_rankedOwner_35 : decode cX1_rankedOwner 35 = .ok (.aload_n 0, 1) := by decide +kernel
theorem dX1_rankedOwner_36 : decode cX1_rankedOwner 36 = .ok (.iconst (-1), 1) := by decide +kernel
theorem dX1_rankedOwner_37 : decode cX1_rankedOwner 37 = .ok (.invokevirtual 97, 3) := by decide +kernel
theorem dX1_rankedOwner_40 : decode cX1_rankedOwner 40 = .ok (.istore_n 2, 1) := by decide +kernel
theorem dX1_rankedOwner_41 : decode cX1_rankedOwner 41 = .ok (.iconst 0, 1) := by decide +kernel
theorem dX1_rankedOwner_42 : decode cX1_rankedOwner 42 = .ok (.istore_n 3, 1) := by decide +kernel
theorem dX1_rankedOwner_43 : decode cX1_rankedOwner 43 = .ok (.iload_n 3, 1) := by decide +kernel
theorem dX1_rankedOwner_44 : decode cX1_rankedOwner 44 = .ok (.iload_n 1, 1) := by decide +kernel
theorem dX1_rankedOwner_45 : decode cX1_rankedOwner 45 = .ok (.if_icmp .ge 30, 3) := by decide +kernel
theorem dX1_rankedOwner_48 : decode cX1_rankedOwner 48 = .ok (.iload_n 2, 1) := by decide +kernel
theorem dX1_rankedOwner_49 : decode cX1_rankedOwner 49 = .ok (.iconst (-1), 1) := by decide +kernel
theorem dX1_rankedOwner_50 : decode cX1_rankedOwner 50 = .ok (.if_icmp .eq 25, 3) := by decide +kernel
theorem dX1_rankedOwner_53 : decode cX1_rankedOwner 53 = .ok (.aload_n 0, 1) := by decide +kernel
theorem dX1_rankedOwner_54 : decode cX1_rankedOwner 54 = .ok (.getfield 31, 3) := by decide +kernel
theorem dX1_rankedOwner_57 : decode cX1_rankedOwner 57 = .ok (.iload_n 2, 1) := by decide +kernel
theorem dX1_rankedOwner_58 : decode cX1_rankedOwner 58 = .ok (.dup2, 1) := by decide +kernel
theorem dX1_rankedOwner_59 : decode cX1_rankedOwner 59 = .ok (.iaload, 1) := by decide +kernel
theorem dX1_rankedOwner_60 : decode cX1_rankedOwner 60 = .ok (.iconst 1, 1) := by decide +kernel
theorem dX1_rankedOwner_61 : decode cX1_rankedOwner 61 = .ok (.iadd, 1) := by decide +kernel
theorem dX1_rankedOwner_62 : decode cX1_rankedOwner 62 = .ok (.iastore, 1) := by decide +kernel
theorem dX1_rankedOwner_63 : decode cX1_rankedOwner 63 = .ok (.aload_n 0, 1) := by decide +kernel
theorem dX1_rankedOwner_64 : decode cX1_rankedOwner 64 = .ok (.iconst (-1), 1) := by decide +kernel
theorem dX1_rankedOwner_65 : decode cX1_rankedOwner 65 = .ok (.invokevirtual 97, 3) := by decide +kernel
theorem dX1_rankedOwner_68 : decode cX1_rankedOwner 68 = .ok (.istore_n 2, 1) := by decide +kernel
theorem dX1_rankedOwner_69 : decode cX1_rankedOwner 69 = .ok (.iinc 3 1, 3) := by decide +kernel
theorem dX1_rankedOwner_72 : decode cX1_rankedOwner 72 = .ok (.goto (-29), 3) := by decide +kernel
theorem dX1_rankedOwner_75 : decode cX1_rankedOwner 75 = .ok (.iload_n 2, 1) := by decide +kernel
theorem dX1_rankedOwner_76 : decode cX1_rankedOwner 76 = .ok (.ireturn, 1) := by decide +kernel
theorem dX1_rankedValue_0 : decode cX1_rankedValue 0 = .ok (.aload_n 0, 1) := by decide +kernel
theorem dX1_rankedValue_1 : decode cX1_rankedValue 1 = .ok (.iload_n 1, 1) := by decide +kernel
theorem dX1_rankedValue_2 : decode cX1_rankedValue 2 = .ok (.invokevirtual 100, 3) := by decide +kernel
theorem dX1_rankedValue_5 : decode cX1_rankedValue 5 = .ok (.istore_n 2, 1) := by decide +kernel
theorem dX1_rankedValue_6 : decode cX1_rankedValue 6 = .ok (.iload_n 2, 1) := by decide +kernel
theorem dX1_rankedValue_7 : decode cX1_rankedValue 7 = .ok (.iconst (-1), 1) := by decide +kernel
theorem dX1_rankedValue_8 : decode cX1_rankedValue 8 = .ok (.if_icmp .ne 7, 3) := by decide +kernel
theorem dX1_rankedValue_11 : decode cX1_rankedValue 11 = .ok (.iconst (-1), 1) := by decide +kernel
theorem dX1_rankedValue_12 : decode cX1_rankedValue 12 = .ok (.goto 14, 3) := by decide +kernel
theorem dX1_rankedValue_15 : decode cX1_rankedValue 15 = .ok (.aload_n 0, 1) := by decide +kernel
theorem dX1_rankedValue_16 : decode cX1_rankedValue 16 = .ok (.iload_n 2, 1) := by decide +kernel
theorem dX1_rankedValue_17 : decode cX1_rankedValue 17 = .ok (.aload_n 0, 1) := by decide +kernel
theorem dX1_rankedValue_18 : decode cX1_rankedValue 18 = .ok (.getfield 31, 3) := by decide +kernel
theorem dX1_rankedValue_21 : decode cX1_rankedValue 21 = .ok (.iload_n 2, 1) := by decide +kernel
theorem dX1_rankedValue_22 : decode cX1_rankedValue 22 = .ok (.iaload, 1) := by decide +kernel
theorem dX1_rankedValue_23 : decode cX1_rankedValue 23 = .ok (.invokevirtual 51, 3) := by decide +kernel
theorem dX1_rankedValue_26 : decode cX1_rankedValue 26 = .ok (.ireturn, 1) := by decide +kernel
theorem dX1_worthTo_0 : decode cX1_worthTo 0 = .ok (.iconst 0, 1) := by decide +kernel
theorem dX1_worthTo_1 : decode cX1_worthTo 1 = .ok (.istore_n 3, 1) := by decide +kernel
theorem dX1_worthTo_2 : decode cX1_worthTo 2 = .ok (.iload_n 3, 1) := by decide +kernel
theorem dX1_worthTo_3 : decode cX1_worthTo 3 = .ok (.aload_n 0, 1) := by decide +kernel
theorem dX1_worthTo_4 : decode cX1_worthTo 4 = .ok (.getfield 18, 3) := by decide +kernel
theorem dX1_worthTo_7 : decode cX1_worthTo 7 = .ok (.if_icmp .ge 40, 3) := by decide +kernel
theorem dX1_worthTo_10 : decode cX1_worthTo 10 = .ok (.aload_n 0, 1) := by decide +kernel
theorem dX1_worthTo_11 : decode cX1_worthTo 11 = .ok (.getfield 31, 3) := by decide +kernel
theorem dX1_worthTo_14 : decode cX1_worthTo 14 = .ok (.iload_n 3, 1) := by decide +kernel
theorem dX1_worthTo_15 : decode cX1_worthTo 15 = .ok (.iconst 0, 1) := by decide +kernel
theorem dX1_worthTo_16 : decode cX1_worthTo 16 = .ok (.iastore, 1) := by decide +kernel
theorem dX1_worthTo_17 : decode cX1_worthTo 17 = .ok (.aload_n 0, 1) := by decide +kernel
theorem dX1_worthTo_18 : decode cX1_worthTo 18 = .ok (.getfield 34, 3) := by decide +kernel
theorem dX1_worthTo_21 : decode cX1_worthTo 21 = .ok (.iload_n 3, 1) := by decide +kernel
theorem dX1_worthTo_22 : decode cX1_worthTo 22 = .ok (.iload_n 1, 1) := by decide +kernel
theorem dX1_worthTo_23 : decode cX1_worthTo 23 = .ok (.iload_n 3, 1) := by decide +kernel
theorem dX1_worthTo_24 : decode cX1_worthTo 24 = .ok (.ishr, 1) := by decide +kernel
theorem dX1_worthTo_25 : decode cX1_worthTo 25 = .ok (.iconst 1, 1) := by decide +kernel
theorem dX1_worthTo_26 : decode cX1_worthTo 26 = .ok (.iand, 1) := by decide +kernel
theorem dX1_worthTo_27 : decode cX1_worthTo 27 = .ok (.iconst 1, 1) := by decide +kernel
theorem dX1_worthTo_28 : decode cX1_worthTo 28 = .ok (.if_icmp .ne 11, 3) := by decide +kernel
theorem dX1_worthTo_31 : decode cX1_worthTo 31 = .ok (.aload_n 0, 1) := by decide +kernel
theorem dX1_worthTo_32 : decode cX1_worthTo 32 = .ok (.iload_n 3, 1) := by decide +kernel
theorem dX1_worthTo_33 : decode cX1_worthTo 33 = .ok (.invokevirtual 94, 3) := by decide +kernel
theorem dX1_worthTo_36 : decode cX1_worthTo 36 = .ok (.goto 4, 3) := by decide +kernel
theorem dX1_worthTo_39 : decode cX1_worthTo 39 = .ok (.iconst 0, 1) := by decide +kernel
theorem dX1_worthTo_40 : decode cX1_worthTo 40 = .ok (.iastore, 1) := by decide +kernel
theorem dX1_worthTo_41 : decode cX1_worthTo 41 = .ok (.iinc 3 1, 3) := by decide +kernel
theorem dX1_worthTo_44 : decode cX1_worthTo 44 = .ok (.goto (-42), 3) := by decide +kernel
theorem dX1_worthTo_47 : decode cX1_worthTo 47 = .ok (.iconst 0, 1) := by decide +kernel
theorem dX1_worthTo_48 : decode cX1_worthTo 48 = .ok (.istore_n 3, 1) := by decide +kernel
theorem dX1_worthTo_49 : decode cX1_worthTo 49 = .ok (.iconst 0, 1) := by decide +kernel
theorem dX1_worthTo_50 : decode cX1_worthTo 50 = .ok (.istore 4, 2) := by decide +kernel
theorem dX1_worthTo_52 : decode cX1_worthTo 52 = .ok (.iload 4, 2) := by decide +kernel
theorem dX1_worthTo_54 : decode cX1_worthTo 54 = .ok (.iload_n 2, 1) := by decide +kernel
theorem dX1_worthTo_55 : decode cX1_worthTo 55 = .ok (.if_icmp .ge 64, 3) := by decide +kernel
theorem dX1_worthTo_58 : decode cX1_worthTo 58 = .ok (.aload_n 0, 1) := by decide +kernel
theorem dX1_worthTo_59 : decode cX1_worthTo 59 = .ok (.aload_n 0, 1) := by decide +kernel
theorem dX1_worthTo_60 : decode cX1_worthTo 60 = .ok (.getfield 15, 3) := by decide +kernel
theorem dX1_worthTo_63 : decode cX1_worthTo 63 = .ok (.invokevirtual 97, 3) := by decide +kernel
theorem dX1_worthTo_66 : decode cX1_worthTo 66 = .ok (.istore 5, 2) := by decide +kernel
theorem dX1_worthTo_68 : decode cX1_worthTo 68 = .ok (.iload 5, 2) := by decide +kernel
theorem dX1_worthTo_70 : decode cX1_worthTo 70 = .ok (.iconst (-1), 1) := by decide +kernel
theorem dX1_worthTo_71 : decode cX1_worthTo 71 = .ok (.if_icmp .ne 15, 3) := by decide +kernel
theorem dX1_worthTo_74 : decode cX1_worthTo 74 = .ok (.iload_n 3, 1) := by decide +kernel
theorem dX1_worthTo_75 : decode cX1_worthTo 75 = .ok (.iload_n 2, 1) := by decide +kernel
theorem dX1_worthTo_76 : decode cX1_worthTo 76 = .ok (.iload 4, 2) := by decide +kernel
theorem dX1_worthTo_78 : decode cX1_worthTo 78 = .ok (.isub, 1) := by decide +kernel
theorem dX1_worthTo_79 : decode cX1_worthTo 79 = .ok (.aload_n 0, 1) := by decide +kernel
theorem dX1_worthTo_80 : decode cX1_worthTo 80 = .ok (.getfield 15, 3) := by decide +kernel
theorem dX1_worthTo_83 : decode cX1_worthTo 83 = .ok (.imul, 1) := by decide +kernel
theorem dX1_worthTo_84 : decode cX1_worthTo 84 = .ok (.iadd, 1) := by decide +kernel
theorem dX1_worthTo_85 : decode cX1_worthTo 85 = .ok (.ireturn, 1) := by decide +kernel
theorem dX1_worthTo_86 : decode cX1_worthTo 86 = .ok (.iload_n 3, 1) := by decide +kernel
theorem dX1_worthTo_87 : decode cX1_worthTo 87 = .ok (.aload_n 0, 1) := by decide +kernel
theorem dX1_worthTo_88 : decode cX1_worthTo 88 = .ok (.iload 5, 2) := by decide +kernel
theorem dX1_worthTo_90 : decode cX1_worthTo 90 = .ok (.aload_n 0, 1) := by decide +kernel
theorem dX1_worthTo_91 : decode cX1_worthTo 91 = .ok (.getfield 31, 3) := by decide +kernel
theorem dX1_worthTo_94 : decode cX1_worthTo 94 = .ok (.iload 5, 2) := by decide +kernel
theorem dX1_worthTo_96 : decode cX1_worthTo 96 = .ok (.iaload, 1) := by decide +kernel
theorem dX1_worthTo_97 : decode cX1_worthTo 97 = .ok (.invokevirtual 51, 3) := by decide +kernel
theorem dX1_worthTo_100 : decode cX1_worthTo 100 = .ok (.iadd, 1) := by decide +kernel
theorem dX1_worthTo_101 : decode cX1_worthTo 101 = .ok (.istore_n 3, 1) := by decide +kernel
theorem dX1_worthTo_102 : decode cX1_worthTo 102 = .ok (.aload_n 0, 1) := by decide +kernel
theorem dX1_worthTo_103 : decode cX1_worthTo 103 = .ok (.getfield 31, 3) := by decide +kernel
theorem dX1_worthTo_106 : decode cX1_worthTo 106 = .ok (.iload 5, 2) := by decide +kernel
theorem dX1_worthTo_108 : decode cX1_worthTo 108 = .ok (.dup2, 1) := by decide +kernel
theorem dX1_worthTo_109 : decode cX1_worthTo 109 = .ok (.iaload, 1) := by decide +kernel
theorem dX1_worthTo_110 : decode cX1_worthTo 110 = .ok (.iconst 1, 1) := by decide +kernel
theorem dX1_worthTo_111 : decode cX1_worthTo 111 = .ok (.iadd, 1) := by decide +kernel
theorem dX1_worthTo_112 : decode cX1_worthTo 112 = .ok (.iastore, 1) := by decide +kernel
theorem dX1_worthTo_113 : decode cX1_worthTo 113 = .ok (.iinc 4 1, 3) := by decide +kernel
theorem dX1_worthTo_116 : decode cX1_worthTo 116 = .ok (.goto (-64), 3) := by decide +kernel
theorem dX1_worthTo_119 : decode cX1_worthTo 119 = .ok (.iload_n 3, 1) := by decide +kernel
theorem dX1_worthTo_120 : decode cX1_worthTo 120 = .ok (.ireturn, 1) := by decide +kernel
theorem dX1_nextGreatest_0 : decode cX1_nextGreatest 0 = .ok (.iconst (-1), 1) := by decide +kernel
theorem dX1_nextGreatest_1 : decode cX1_nextGreatest 1 = .ok (.istore_n 2, 1) := by decide +kernel
theorem dX1_nextGreatest_2 : decode cX1_nextGreatest 2 = .ok (.iload_n 1, 1) := by decide +kernel
theorem dX1_nextGreatest_3 : decode cX1_nextGreatest 3 = .ok (.istore_n 3, 1) := by decide +kernel
theorem dX1_nextGreatest_4 : decode cX1_nextGreatest 4 = .ok (.iconst 0, 1) := by decide +kernel
theorem dX1_nextGreatest_5 : decode cX1_nextGreatest 5 = .ok (.istore 4, 2) := by decide +kernel
theorem dX1_nextGreatest_7 : decode cX1_nextGreatest 7 = .ok (.iload 4, 2) := by decide +kernel
theorem dX1_nextGreatest_9 : decode cX1_nextGreatest 9 = .ok (.aload_n 0, 1) := by decide +kernel
theorem dX1_nextGreatest_10 : decode cX1_nextGreatest 10 = .ok (.getfield 18, 3) := by decide +kernel
theorem dX1_nextGreatest_13 : decode cX1_nextGreatest 13 = .ok (.if_icmp .ge 60, 3) := by decide +kernel
theorem dX1_nextGreatest_16 : decode cX1_nextGreatest 16 = .ok (.aload_n 0, 1) := by decide +kernel
theorem dX1_nextGreatest_17 : decode cX1_nextGreatest 17 = .ok (.getfield 31, 3) := by decide +kernel
theorem dX1_nextGreatest_20 : decode cX1_nextGreatest 20 = .ok (.iload 4, 2) := by decide +kernel
theorem dX1_nextGreatest_22 : decode cX1_nextGreatest 22 = .ok (.iaload, 1) := by decide +kernel
theorem dX1_nextGreatest_23 : decode cX1_nextGreatest 23 = .ok (.aload_n 0, 1) := by decide +kernel
theorem dX1_nextGreatest_24 : decode cX1_nextGreatest 24 = .ok (.getfield 34, 3) := by decide +kernel
theorem dX1_nextGreatest_27 : decode cX1_nextGreatest 27 = .ok (.iload 4, 2) := by decide +kernel
theorem dX1_nextGreatest_29 : decode cX1_nextGreatest 29 = .ok (.iaload, 1) := by decide +kernel
theorem dX1_nextGreatest_30 : decode cX1_nextGreatest 30 = .ok (.if_icmp .ge 37, 3) := by decide +kernel
theorem dX1_nextGreatest_33 : decode cX1_nextGreatest 33 = .ok (.aload_n 0, 1) := by decide +kernel
theorem dX1_nextGreatest_34 : decode cX1_nextGreatest 34 = .ok (.iload 4, 2) := by decide +kernel
theorem dX1_nextGreatest_36 : decode cX1_nextGreatest 36 = .ok (.aload_n 0, 1) := by decide +kernel
theorem dX1_nextGreatest_37 : decode cX1_nextGreatest 37 = .ok (.getfield 31, 3) := by decide +kernel
theorem dX1_nextGreatest_40 : decode cX1_nextGreatest 40 = .ok (.iload 4, 2) := by decide +kernel
theorem dX1_nextGreatest_42 : decode cX1_nextGreatest 42 = .ok (.iaload, 1) := by decide +kernel
theorem dX1_nextGreatest_43 : decode cX1_nextGreatest 43 = .ok (.invokevirtual 51, 3) := by decide +kernel
theorem dX1_nextGreatest_46 : decode cX1_nextGreatest 46 = .ok (.iload_n 3, 1) := by decide +kernel
theorem dX1_nextGreatest_47 : decode cX1_nextGreatest 47 = .ok (.if_icmp .le 20, 3) := by decide +kernel
theorem dX1_nextGreatest_50 : decode cX1_nextGreatest 50 = .ok (.aload_n 0, 1) := by decide +kernel
theorem dX1_nextGreatest_51 : decode cX1_nextGreatest 51 = .ok (.iload 4, 2) := by decide +kernel
theorem dX1_nextGreatest_53 : decode cX1_nextGreatest 53 = .ok (.aload_n 0, 1) := by decide +kernel
theorem dX1_nextGreatest_54 : decode cX1_nextGreatest 54 = .ok (.getfield 31, 3) := by decide +kernel
theorem dX1_nextGreatest_57 : decode cX1_nextGreatest 57 = .ok (.iload 4, 2) := by decide +kernel
theorem dX1_nextGreatest_59 : decode cX1_nextGreatest 59 = .ok (.iaload, 1) := by decide +kernel
theorem dX1_nextGreatest_60 : decode cX1_nextGreatest 60 = .ok (.invokevirtual 51, 3) := by decide +kernel
theorem dX1_nextGreatest_63 : decode cX1_nextGreatest 63 = .ok (.istore_n 3, 1) := by decide +kernel
theorem dX1_nextGreatest_64 : decode cX1_nextGreatest 64 = .ok (.iload 4, 2) := by decide +kernel
theorem dX1_nextGreatest_66 : decode cX1_nextGreatest 66 = .ok (.istore_n 2, 1) := by decide +kernel
theorem dX1_nextGreatest_67 : decode cX1_nextGreatest 67 = .ok (.iinc 4 1, 3) := by decide +kernel
theorem dX1_nextGreatest_70 : decode cX1_nextGreatest 70 = .ok (.goto (-63), 3) := by decide +kernel
theorem dX1_nextGreatest_73 : decode cX1_nextGreatest 73 = .ok (.iload_n 2, 1) := by decide +kernel
theorem dX1_nextGreatest_74 : decode cX1_nextGreatest 74 = .ok (.ireturn, 1) := by decide +kernel
theorem dX2_init_0 : decode cX2_init 0 = .ok (.aload_n 0, 1) := by decide +kernel
theorem dX2_init_1 : decode cX2_init 1 = .ok (.invokespecial 5, 3) := by decide +kernel
theorem dX2_init_4 : decode cX2_init 4 = .ok (.aload_n 0, 1) := by decide +kernel
theorem dX2_init_5 : decode cX2_init 5 = .ok (.iconst 0, 1) := by decide +kernel
theorem dX2_init_6 : decode cX2_init 6 = .ok (.putfield 11, 3) := by decide +kernel
theorem dX2_init_9 : decode cX2_init 9 = .ok (.aload_n 0, 1) := by decide +kernel
theorem dX2_init_10 : decode cX2_init 10 = .ok (.iconst 0, 1) := by decide +kernel
theorem dX2_init_11 : decode cX2_init 11 = .ok (.putfield 17, 3) := by decide +kernel
theorem dX2_init_14 : decode cX2_init 14 = .ok (.aload_n 0, 1) := by decide +kernel
theorem dX2_init_15 : decode cX2_init 15 = .ok (.sipush 1512, 3) := by decide +kernel
theorem dX2_init_18 : decode cX2_init 18 = .ok (.newarray .int, 2) := by decide +kernel
theorem dX2_init_20 : decode cX2_init 20 = .ok (.putfield 20, 3) := by decide +kernel
theorem dX2_init_23 : decode cX2_init 23 = .ok (.return_, 1) := by decide +kernel
theorem dX2_push_0 : decode cX2_push 0 = .ok (.aload_n 1, 1) := by decide +kernel
theorem dX2_push_1 : decode cX2_push 1 = .ok (.aload_n 0, 1) := by decide +kernel
theorem dX2_push_2 : decode cX2_push 2 = .ok (.getfield 20, 3) := by decide +kernel
theorem dX2_push_5 : decode cX2_push 5 = .ok (.aload_n 0, 1) := by decide +kernel
theorem dX2_push_6 : decode cX2_push 6 = .ok (.getfield 17, 3) := by decide +kernel
theorem dX2_push_9 : decode cX2_push 9 = .ok (.bipush 126, 2) := by decide +kernel
theorem dX2_push_11 : decode cX2_push 11 = .ok (.imul, 1) := by decide +kernel
theorem dX2_push_12 : decode cX2_push 12 = .ok (.invokevirtual 24, 3) := by decide +kernel
theorem dX2_push_15 : decode cX2_push 15 = .ok (.aload_n 2, 1) := by decide +kernel
theorem dX2_push_16 : decode cX2_push 16 = .ok (.aload_n 0, 1) := by decide +kernel
theorem dX2_push_17 : decode cX2_push 17 = .ok (.getfield 20, 3) := by decide +kernel
theorem dX2_push_20 : decode cX2_push 20 = .ok (.aload_n 0, 1) := by decide +kernel
theorem dX2_push_21 : decode cX2_push 21 = .ok (.getfield 17, 3) := by decide +kernel
theorem dX2_push_24 : decode cX2_push 24 = .ok (.bipush 126, 2) := by decide +kernel
theorem dX2_push_26 : decode cX2_push 26 = .ok (.imul, 1) := by decide +kernel
theorem dX2_push_27 : decode cX2_push 27 = .ok (.bipush 93, 2) := by decide +kernel
theorem dX2_push_29 : decode cX2_push 29 = .ok (.iadd, 1) := by decide +kernel
theorem dX2_push_30 : decode cX2_push 30 = .ok (.invokevirtual 28, 3) := by decide +kernel
theorem dX2_push_33 : decode cX2_push 33 = .ok (.aload_n 0, 1) := by decide +kernel
theorem dX2_push_34 : decode cX2_push 34 = .ok (.aload_n 0, 1) := by decide +kernel
theorem dX2_push_35 : decode cX2_push 35 = .ok (.getfield 17, 3) := by decide +kernel
theorem dX2_push_38 : decode cX2_push 38 = .ok (.iconst 1, 1) := by decide +kernel
theorem dX2_push_39 : decode cX2_push 39 = .ok (.iadd, 1) := by decide +kernel
theorem dX2_push_40 : decode cX2_push 40 = .ok (.bipush 12, 2) := by decide +kernel
theorem dX2_push_42 : decode cX2_push 42 = .ok (.irem, 1) := by decide +kernel
theorem dX2_push_43 : decode cX2_push 43 = .ok (.putfield 17, 3) := by decide +kernel
theorem dX2_push_46 : decode cX2_push 46 = .ok (.aload_n 0, 1) := by decide +kernel
theorem dX2_push_47 : decode cX2_push 47 = .ok (.aload_n 0, 1) := by decide +kernel
theorem dX2_push_48 : decode cX2_push 48 = .ok (.getfield 11, 3) := by decide +kernel
theorem dX2_push_51 : decode cX2_push 51 = .ok (.iconst 1, 1) := by decide +kernel
theorem dX2_push_52 : decode cX2_push 52 = .ok (.iadd, 1) := by decide +kernel
theorem dX2_push_53 : decode cX2_push 53 = .ok (.bipush 12, 2) := by decide +kernel
theorem dX2_push_55 : decode cX2_push 55 = .ok (.invokestatic 29, 3) := by decide +kernel
theorem dX2_push_58 : decode cX2_push 58 = .ok (.putfield 11, 3) := by decide +kernel
theorem dX2_push_61 : decode cX2_push 61 = .ok (.return_, 1) := by decide +kernel
theorem dX2_pop_0 : decode cX2_pop 0 = .ok (.aload_n 0, 1) := by decide +kernel
theorem dX2_pop_1 : decode cX2_pop 1 = .ok (.getfield 11, 3) := by decide +kernel
theorem dX2_pop_4 : decode cX2_pop 4 = .ok (.ifCond .ne 4, 3) := by decide +kernel
theorem dX2_pop_7 : decode cX2_pop 7 = .ok (.return_, 1) := by decide +kernel
theorem dX2_pop_8 : decode cX2_pop 8 = .ok (.aload_n 0, 1) := by decide +kernel
theorem dX2_pop_9 : decode cX2_pop 9 = .ok (.aload_n 0, 1) := by decide +kernel
theorem dX2_pop_10 : decode cX2_pop 10 = .ok (.getfield 17, 3) := by decide +kernel
theorem dX2_pop_13 : decode cX2_pop 13 = .ok (.bipush 12, 2) := by decide +kernel
theorem dX2_pop_15 : decode cX2_pop 15 = .ok (.iadd, 1) := by decide +kernel
theorem dX2_pop_16 : decode cX2_pop 16 = .ok (.iconst 1, 1) := by decide +kernel
theorem dX2_pop_17 : decode cX2_pop 17 = .ok (.isub, 1) := by decide +kernel
theorem dX2_pop_18 : decode cX2_pop 18 = .ok (.bipush 12, 2) := by decide +kernel
theorem dX2_pop_20 : decode cX2_pop 20 = .ok (.irem, 1) := by decide +kernel
theorem dX2_pop_21 : decode cX2_pop 21 = .ok (.putfield 17, 3) := by decide +kernel
theorem dX2_pop_24 : decode cX2_pop 24 = .ok (.aload_n 0, 1) := by decide +kernel
theorem dX2_pop_25 : decode cX2_pop 25 = .ok (.dup, 1) := by decide +kernel
theorem dX2_pop_26 : decode cX2_pop 26 = .ok (.getfield 11, 3) := by decide +kernel
theorem dX2_pop_29 : decode cX2_pop 29 = .ok (.iconst 1, 1) := by decide +kernel
theorem dX2_pop_30 : decode cX2_pop 30 = .ok (.isub, 1) := by decide +kernel
theorem dX2_pop_31 : decode cX2_pop 31 = .ok (.putfield 11, 3) := by decide +kernel
theorem dX2_pop_34 : decode cX2_pop 34 = .ok (.aload_n 1, 1) := by decide +kernel
theorem dX2_pop_35 : decode cX2_pop 35 = .ok (.aload_n 0, 1) := by decide +kernel
theorem dX2_pop_36 : decode cX2_pop 36 = .ok (.getfield 20, 3) := by decide +kernel
theorem dX2_pop_39 : decode cX2_pop 39 = .ok (.aload_n 0, 1) := by decide +kernel
theorem dX2_pop_40 : decode cX2_pop 40 = .ok (.getfield 17, 3) := by decide +kernel
theorem dX2_pop_43 : decode cX2_pop 43 = .ok (.bipush 126, 2) := by decide +kernel
theorem dX2_pop_45 : decode cX2_pop 45 = .ok (.imul, 1) := by decide +kernel
theorem dX2_pop_46 : decode cX2_pop 46 = .ok (.invokevirtual 35, 3) := by decide +kernel
theorem dX2_pop_49 : decode cX2_pop 49 = .ok (.aload_n 2, 1) := by decide +kernel
theorem dX2_pop_50 : decode cX2_pop 50 = .ok (.aload_n 0, 1) := by decide +kernel
theorem dX2_pop_51 : decode cX2_pop 51 = .ok (.getfield 20, 3) := by decide +kernel
theorem dX2_pop_54 : decode cX2_pop 54 = .ok (.aload_n 0, 1) := by decide +kernel
theorem dX2_pop_55 : decode cX2_pop 55 = .ok (.getfield 17, 3) := by decide +kernel
theorem dX2_pop_58 : decode cX2_pop 58 = .ok (.bipush 126, 2) := by decide +kernel
theorem dX2_pop_60 : decode cX2_pop 60 = .ok (.imul, 1) := by decide +kernel
theorem dX2_pop_61 : decode cX2_pop 61 = .ok (.bipush 93, 2) := by decide +kernel
theorem dX2_pop_63 : decode cX2_pop 63 = .ok (.iadd, 1) := by decide +kernel
theorem dX2_pop_64 : decode cX2_pop 64 = .ok (.invokevirtual 38, 3) := by decide +kernel
theorem dX2_pop_67 : decode cX2_pop 67 = .ok (.return_, 1) := by decide +kernel
theorem dX3_init_0 : decode cX3_init 0 = .ok (.aload_n 0, 1) := by decide +kernel
theorem dX3_init_1 : decode cX3_init 1 = .ok (.invokespecial 5, 3) := by decide +kernel
theorem dX3_init_4 : decode cX3_init 4 = .ok (.aload_n 0, 1) := by decide +kernel
theorem dX3_init_5 : decode cX3_init 5 = .ok (.iconst 0, 1) := by decide +kernel
theorem dX3_init_6 : decode cX3_init 6 = .ok (.putfield 11, 3) := by decide +kernel
theorem dX3_init_9 : decode cX3_init 9 = .ok (.aload_n 0, 1) := by decide +kernel
theorem dX3_init_10 : decode cX3_init 10 = .ok (.bipush 32, 2) := by decide +kernel
theorem dX3_init_12 : decode cX3_init 12 = .ok (.newarray .int, 2) := by decide +kernel
theorem dX3_init_14 : decode cX3_init 14 = .ok (.putfield 15, 3) := by decide +kernel
theorem dX3_init_17 : decode cX3_init 17 = .ok (.return_, 1) := by decide +kernel
theorem dX3_write_0 : decode cX3_write 0 = .ok (.aload_n 0, 1) := by decide +kernel
theorem dX3_write_1 : decode cX3_write 1 = .ok (.getfield 15, 3) := by decide +kernel
theorem dX3_write_4 : decode cX3_write 4 = .ok (.iconst 0, 1) := by decide +kernel
theorem dX3_write_5 : decode cX3_write 5 = .ok (.aload_n 0, 1) := by decide +kernel
theorem dX3_write_6 : decode cX3_write 6 = .ok (.getfield 15, 3) := by decide +kernel
theorem dX3_write_9 : decode cX3_write 9 = .ok (.iconst 4, 1) := by decide +kernel
theorem dX3_write_10 : decode cX3_write 10 = .ok (.bipush 28, 2) := by decide +kernel
theorem dX3_write_12 : decode cX3_write 12 = .ok (.invokestatic 19, 3) := by decide +kernel
theorem dX3_write_15 : decode cX3_write 15 = .ok (.aload_n 0, 1) := by decide +kernel
theorem dX3_write_16 : decode cX3_write 16 = .ok (.getfield 15, 3) := by decide +kernel
theorem dX3_write_19 : decode cX3_write 19 = .ok (.iconst 0, 1) := by decide +kernel
theorem dX3_write_20 : decode cX3_write 20 = .ok (.iload_n 1, 1) := by decide +kernel
theorem dX3_write_21 : decode cX3_write 21 = .ok (.iastore, 1) := by decide +kernel
theorem dX3_write_22 : decode cX3_write 22 = .ok (.aload_n 0, 1) := by decide +kernel
theorem dX3_write_23 : decode cX3_write 23 = .ok (.getfield 15, 3) := by decide +kernel
theorem dX3_write_26 : decode cX3_write 26 = .ok (.iconst 1, 1) := by decide +kernel
theorem dX3_write_27 : decode cX3_write 27 = .ok (.iload_n 2, 1) := by decide +kernel
theorem dX3_write_28 : decode cX3_write 28 = .ok (.iastore, 1) := by decide +kernel
theorem dX3_write_29 : decode cX3_write 29 = .ok (.aload_n 0, 1) := by decide +kernel
theorem dX3_write_30 : decode cX3_write 30 = .ok (.getfield 15, 3) := by decide +kernel
theorem dX3_write_33 : decode cX3_write 33 = .ok (.iconst 2, 1) := by decide +kernel
theorem dX3_write_34 : decode cX3_write 34 = .ok (.iload_n 3, 1) := by decide +kernel
theorem dX3_write_35 : decode cX3_write 35 = .ok (.iastore, 1) := by decide +kernel
theorem dX3_write_36 : decode cX3_write 36 = .ok (.aload_n 0, 1) := by decide +kernel
theorem dX3_write_37 : decode cX3_write 37 = .ok (.getfield 15, 3) := by decide +kernel
theorem dX3_write_40 : decode cX3_write 40 = .ok (.iconst 3, 1) := by decide +kernel
theorem dX3_write_41 : decode cX3_write 41 = .ok (.iload 4, 2) := by decide +kernel
theorem dX3_write_43 : decode cX3_write 43 = .ok (.iastore, 1) := by decide +kernel
theorem dX3_write_44 : decode cX3_write 44 = .ok (.aload_n 0, 1) := by decide +kernel
theorem dX3_write_45 : decode cX3_write 45 = .ok (.aload_n 0, 1) := by decide +kernel
theorem dX3_write_46 : decode cX3_write 46 = .ok (.getfield 11, 3) := by decide +kernel
theorem dX3_write_49 : decode cX3_write 49 = .ok (.iconst 1, 1) := by decide +kernel
theorem dX3_write_50 : decode cX3_write 50 = .ok (.iadd, 1) := by decide +kernel
theorem dX3_write_51 : decode cX3_write 51 = .ok (.bipush 8, 2) := by decide +kernel
theorem dX3_write_53 : decode cX3_write 53 = .ok (.invokestatic 25, 3) := by decide +kernel
theorem dX3_write_56 : decode cX3_write 56 = .ok (.putfield 11, 3) := by decide +kernel
theorem dX3_write_59 : decode cX3_write 59 = .ok (.return_, 1) := by decide +kernel
theorem dX3_read_0 : decode cX3_read 0 = .ok (.iload_n 1, 1) := by decide +kernel
theorem dX3_read_1 : decode cX3_read 1 = .ok (.ifCond .lt 20, 3) := by decide +kernel
theorem dX3_read_4 : decode cX3_read 4 = .ok (.iload_n 1, 1) := by decide +kernel
theorem dX3_read_5 : decode cX3_read 5 = .ok (.aload_n 0, 1) := by decide +kernel
theorem dX3_read_6 : decode cX3_read 6 = .ok (.getfield 11, 3) := by decide +kernel
theorem dX3_read_9 : decode cX3_read 9 = .ok (.if_icmp .ge 12, 3) := by decide +kernel
theorem dX3_read_12 : decode cX3_read 12 = .ok (.iload_n 2, 1) := by decide +kernel
theorem dX3_read_13 : decode cX3_read 13 = .ok (.ifCond .lt 8, 3) := by decide +kernel
theorem dX3_read_16 : decode cX3_read 16 = .ok (.iload_n 2, 1) := by decide +kernel
theorem dX3_read_17 : decode cX3_read 17 = .ok (.iconst 4, 1) := by decide +kernel
theorem dX3_read_18 : decode cX3_read 18 = .ok (.if_icmp .lt 5, 3) := by decide +kernel
theorem dX3_read_21 : decode cX3_read 21 = .ok (.iconst (-1), 1) := by decide +kernel
theorem dX3_read_22 : decode cX3_read 22 = .ok (.ireturn, 1) := by decide +kernel
theorem dX3_read_23 : decode cX3_read 23 = .ok (.aload_n 0, 1) := by decide +kernel
theorem dX3_read_24 : decode cX3_read 24 = .ok (.getfield 15, 3) := by decide +kernel
theorem dX3_read_27 : decode cX3_read 27 = .ok (.iload_n 1, 1) := by decide +kernel
theorem dX3_read_28 : decode cX3_read 28 = .ok (.iconst 4, 1) := by decide +kernel
theorem dX3_read_29 : decode cX3_read 29 = .ok (.imul, 1) := by decide +kernel
theorem dX3_read_30 : decode cX3_read 30 = .ok (.iload_n 2, 1) := by decide +kernel
theorem dX3_read_31 : decode cX3_read 31 = .ok (.iadd, 1) := by decide +kernel
theorem dX3_read_32 : decode cX3_read 32 = .ok (.iaload, 1) := by decide +kernel
theorem dX3_read_33 : decode cX3_read 33 = .ok (.ireturn, 1) := by decide +kernel
theorem dX3_storeIn_0 : decode cX3_storeIn 0 = .ok (.aload_n 1, 1) := by decide +kernel
theorem dX3_storeIn_1 : decode cX3_storeIn 1 = .ok (.iload_n 2, 1) := by decide +kernel
theorem dX3_storeIn_2 : decode cX3_storeIn 2 = .ok (.aload_n 0, 1) := by decide +kernel
theorem dX3_storeIn_3 : decode cX3_storeIn 3 = .ok (.getfield 11, 3) := by decide +kernel
theorem dX3_storeIn_6 : decode cX3_storeIn 6 = .ok (.iastore, 1) := by decide +kernel
theorem dX3_storeIn_7 : decode cX3_storeIn 7 = .ok (.aload_n 0, 1) := by decide +kernel
theorem dX3_storeIn_8 : decode cX3_storeIn 8 = .ok (.getfield 15, 3) := by decide +kernel
theorem dX3_storeIn_11 : decode cX3_storeIn 11 = .ok (.iconst 0, 1) := by decide +kernel
theorem dX3_storeIn_12 : decode cX3_storeIn 12 = .ok (.aload_n 1, 1) := by decide +kernel
theorem dX3_storeIn_13 : decode cX3_storeIn 13 = .ok (.iload_n 2, 1) := by decide +kernel
theorem dX3_storeIn_14 : decode cX3_storeIn 14 = .ok (.iconst 1, 1) := by decide +kernel
theorem dX3_storeIn_15 : decode cX3_storeIn 15 = .ok (.iadd, 1) := by decide +kernel
theorem dX3_storeIn_16 : decode cX3_storeIn 16 = .ok (.aload_n 0, 1) := by decide +kernel
theorem dX3_storeIn_17 : decode cX3_storeIn 17 = .ok (.getfield 15, 3) := by decide +kernel
theorem dX3_storeIn_20 : decode cX3_storeIn 20 = .ok (.arraylength, 1) := by decide +kernel
theorem dX3_storeIn_21 : decode cX3_storeIn 21 = .ok (.invokestatic 19, 3) := by decide +kernel
theorem dX3_storeIn_24 : decode cX3_storeIn 24 = .ok (.return_, 1) := by decide +kernel
theorem dX3_loadFrom_0 : decode cX3_loadFrom 0 = .ok (.aload_n 0, 1) := by decide +kernel
theorem dX3_loadFrom_1 : decode cX3_loadFrom 1 = .ok (.aload_n 1, 1) := by decide +kernel
theorem dX3_loadFrom_2 : decode cX3_loadFrom 2 = .ok (.iload_n 2, 1) := by decide +kernel
theorem dX3_loadFrom_3 : decode cX3_loadFrom 3 = .ok (.iaload, 1) := by decide +kernel
theorem dX3_loadFrom_4 : decode cX3_loadFrom 4 = .ok (.putfield 11, 3) := by decide +kernel
theorem dX3_loadFrom_7 : decode cX3_loadFrom 7 = .ok (.aload_n 1, 1) := by decide +kernel
theorem dX3_loadFrom_8 : decode cX3_loadFrom 8 = .ok (.iload_n 2, 1) := by decide +kernel
theorem dX3_loadFrom_9 : decode cX3_loadFrom 9 = .ok (.iconst 1, 1) := by decide +kernel
theorem dX3_loadFrom_10 : decode cX3_loadFrom 10 = .ok (.iadd, 1) := by decide +kernel
theorem dX3_loadFrom_11 : decode cX3_loadFrom 11 = .ok (.aload_n 0, 1) := by decide +kernel
theorem dX3_loadFrom_12 : decode cX3_loadFrom 12 = .ok (.getfield 15, 3) := by decide +kernel
theorem dX3_loadFrom_15 : decode cX3_loadFrom 15 = .ok (.iconst 0, 1) := by decide +kernel
theorem dX3_loadFrom_16 : decode cX3_loadFrom 16 = .ok (.aload_n 0, 1) := by decide +kernel
theorem dX3_loadFrom_17 : decode cX3_loadFrom 17 = .ok (.getfield 15, 3) := by decide +kernel
theorem dX3_loadFrom_20 : decode cX3_loadFrom 20 = .ok (.arraylength, 1) := by decide +kernel
theorem dX3_loadFrom_21 : decode cX3_loadFrom 21 = .ok (.invokestatic 19, 3) := by decide +kernel
theorem dX3_loadFrom_24 : decode cX3_loadFrom 24 = .ok (.return_, 1) := by decide +kernel
theorem dX4_init_0 : decode cX4_init 0 = .ok (.aload_n 0, 1) := by decide +kernel
theorem dX4_init_1 : decode cX4_init 1 = .ok (.invokespecial 3, 3) := by decide +kernel
theorem dX4_init_4 : decode cX4_init 4 = .ok (.aload_n 0, 1) := by decide +kernel
theorem dX4_init_5 : decode cX4_init 5 = .ok (.iconst (-1), 1) := by decide +kernel
theorem dX4_init_6 : decode cX4_init 6 = .ok (.putfield 9, 3) := by decide +kernel
theorem dX4_init_9 : decode cX4_init 9 = .ok (.aload_n 0, 1) := by decide +kernel
theorem dX4_init_10 : decode cX4_init 10 = .ok (.iconst 0, 1) := by decide +kernel
theorem dX4_init_11 : decode cX4_init 11 = .ok (.putfield 15, 3) := by decide +kernel
theorem dX4_init_14 : decode cX4_init 14 = .ok (.aload_n 0, 1) := by decide +kernel
theorem dX4_init_15 : decode cX4_init 15 = .ok (.bipush (-2), 2) := by decide +kernel
theorem dX4_init_17 : decode cX4_init 17 = .ok (.putfield 18, 3) := by decide +kernel
theorem dX4_init_20 : decode cX4_init 20 = .ok (.return_, 1) := by decide +kernel
theorem dX4_seek_0 : decode cX4_seek 0 = .ok (.aload_n 0, 1) := by decide +kernel
theorem dX4_seek_1 : decode cX4_seek 1 = .ok (.iload_n 1, 1) := by decide +kernel
theorem dX4_seek_2 : decode cX4_seek 2 = .ok (.putfield 9, 3) := by decide +kernel
theorem dX4_seek_5 : decode cX4_seek 5 = .ok (.aload_n 0, 1) := by decide +kernel
theorem dX4_seek_6 : decode cX4_seek 6 = .ok (.iconst 0, 1) := by decide +kernel
theorem dX4_seek_7 : decode cX4_seek 7 = .ok (.putfield 15, 3) := by decide +kernel
theorem dX4_seek_10 : decode cX4_seek 10 = .ok (.aload_n 0, 1) := by decide +kernel
theorem dX4_seek_11 : decode cX4_seek 11 = .ok (.bipush (-2), 2) := by decide +kernel
theorem dX4_seek_13 : decode cX4_seek 13 = .ok (.putfield 18, 3) := by decide +kernel
theorem dX4_seek_16 : decode cX4_seek 16 = .ok (.return_, 1) := by decide +kernel
theorem dX4_answer_0 : decode cX4_answer 0 = .ok (.aload_n 0, 1) := by decide +kernel
theorem dX4_answer_1 : decode cX4_answer 1 = .ok (.getfield 9, 3) := by decide +kernel
theorem dX4_answer_4 : decode cX4_answer 4 = .ok (.iconst (-1), 1) := by decide +kernel
theorem dX4_answer_5 : decode cX4_answer 5 = .ok (.if_icmp .ne 10, 3) := by decide +kernel
theorem dX4_answer_8 : decode cX4_answer 8 = .ok (.aload_n 0, 1) := by decide +kernel
theorem dX4_answer_9 : decode cX4_answer 9 = .ok (.getfield 15, 3) := by decide +kernel
theorem dX4_answer_12 : decode cX4_answer 12 = .ok (.goto 7, 3) := by decide +kernel
theorem dX4_answer_15 : decode cX4_answer 15 = .ok (.aload_n 0, 1) := by decide +kernel
theorem dX4_answer_16 : decode cX4_answer 16 = .ok (.getfield 18, 3) := by decide +kernel
theorem dX4_answer_19 : decode cX4_answer 19 = .ok (.ireturn, 1) := by decide +kernel
theorem dX4_line_0 : decode cX4_line 0 = .ok (.aload_n 0, 1) := by decide +kernel
theorem dX4_line_1 : decode cX4_line 1 = .ok (.aload_n 1, 1) := by decide +kernel
theorem dX4_line_2 : decode cX4_line 2 = .ok (.invokevirtual 21, 3) := by decide +kernel
theorem dX4_line_5 : decode cX4_line 5 = .ok (.aload_n 0, 1) := by decide +kernel
theorem dX4_line_6 : decode cX4_line 6 = .ok (.iload_n 2, 1) := by decide +kernel
theorem dX4_line_7 : decode cX4_line 7 = .ok (.invokevirtual 25, 3) := by decide +kernel
theorem dX4_line_10 : decode cX4_line 10 = .ok (.aload_n 0, 1) := by decide +kernel
theorem dX4_line_11 : decode cX4_line 11 = .ok (.bipush 59, 2) := by decide +kernel
theorem dX4_line_13 : decode cX4_line 13 = .ok (.invokevirtual 29, 3) := by decide +kernel
theorem dX4_line_16 : decode cX4_line 16 = .ok (.return_, 1) := by decide +kernel
theorem dX4_letters_0 : decode cX4_letters 0 = .ok (.iconst 0, 1) := by decide +kernel
theorem dX4_letters_1 : decode cX4_letters 1 = .ok (.istore_n 2, 1) := by decide +kernel
theorem dX4_letters_2 : decode cX4_letters 2 = .ok (.iload_n 2, 1) := by decide +kernel
theorem dX4_letters_3 : decode cX4_letters 3 = .ok (.aload_n 1, 1) := by decide +kernel
theorem dX4_letters_4 : decode cX4_letters 4 = .ok (.invokevirtual 32, 3) := by decide +kernel
theorem dX4_letters_7 : decode cX4_letters 7 = .ok (.if_icmp .ge 18, 3) := by decide +kernel
theorem dX4_letters_10 : decode cX4_letters 10 = .ok (.aload_n 0, 1) := by decide +kernel
theorem dX4_letters_11 : decode cX4_letters 11 = .ok (.aload_n 1, 1) := by decide +kernel
theorem dX4_letters_12 : decode cX4_letters 12 = .ok (.iload_n 2, 1) := by decide +kernel
theorem dX4_letters_13 : decode cX4_letters 13 = .ok (.invokevirtual 38, 3) := by decide +kernel
theorem dX4_letters_16 : decode cX4_letters 16 = .ok (.invokevirtual 29, 3) := by decide +kernel
theorem dX4_letters_19 : decode cX4_letters 19 = .ok (.iinc 2 1, 3) := by decide +kernel
theorem dX4_letters_22 : decode cX4_letters 22 = .ok (.goto (-20), 3) := by decide +kernel
theorem dX4_letters_25 : decode cX4_letters 25 = .ok (.return_, 1) := by decide +kernel
theorem dX4_number_0 : decode cX4_number 0 = .ok (.iconst 1, 1) := by decide +kernel
theorem dX4_number_1 : decode cX4_number 1 = .ok (.istore_n 2, 1) := by decide +kernel
theorem dX4_number_2 : decode cX4_number 2 = .ok (.iconst 1, 1) := by decide +kernel
theorem dX4_number_3 : decode cX4_number 3 = .ok (.istore_n 3, 1) := by decide +kernel
theorem dX4_number_4 : decode cX4_number 4 = .ok (.iload_n 3, 1) := by decide +kernel
theorem dX4_number_5 : decode cX4_number 5 = .ok (.bipush 9, 2) := by decide +kernel
theorem dX4_number_7 : decode cX4_number 7 = .ok (.if_icmp .ge 22, 3) := by decide +kernel
theorem dX4_number_10 : decode cX4_number 10 = .ok (.iload_n 1, 1) := by decide +kernel
theorem dX4_number_11 : decode cX4_number 11 = .ok (.iload_n 2, 1) := by decide +kernel
theorem dX4_number_12 : decode cX4_number 12 = .ok (.idiv, 1) := by decide +kernel
theorem dX4_number_13 : decode cX4_number 13 = .ok (.bipush 10, 2) := by decide +kernel
theorem dX4_number_15 : decode cX4_number 15 = .ok (.if_icmp .lt 14, 3) := by decide +kernel
theorem dX4_number_18 : decode cX4_number 18 = .ok (.iload_n 2, 1) := by decide +kernel
theorem dX4_number_19 : decode cX4_number 19 = .ok (.bipush 10, 2) := by decide +kernel
theorem dX4_number_21 : decode cX4_number 21 = .ok (.imul, 1) := by decide +kernel
theorem dX4_number_22 : decode cX4_number 22 = .ok (.istore_n 2, 1) := by decide +kernel
theorem dX4_number_23 : decode cX4_number 23 = .ok (.iinc 3 1, 3) := by decide +kernel
theorem dX4_number_26 : decode cX4_number 26 = .ok (.goto (-22), 3) := by decide +kernel
theorem dX4_number_29 : decode cX4_number 29 = .ok (.iload_n 2, 1) := by decide +kernel
theorem dX4_number_30 : decode cX4_number 30 = .ok (.iconst 1, 1) := by decide +kernel
theorem dX4_number_31 : decode cX4_number 31 = .ok (.if_icmp .lt 24, 3) := by decide +kernel
theorem dX4_number_34 : decode cX4_number 34 = .ok (.aload_n 0, 1) := by decide +kernel
theorem dX4_number_35 : decode cX4_number 35 = .ok (.bipush 48, 2) := by decide +kernel
theorem dX4_number_37 : decode cX4_number 37 = .ok (.iload_n 1, 1) := by decide +kernel
theorem dX4_number_38 : decode cX4_number 38 = .ok (.iload_n 2, 1) := by decide +kernel
theorem dX4_number_39 : decode cX4_number 39 = .ok (.idiv, 1) := by decide +kernel
theorem dX4_number_40 : decode cX4_number 40 = .ok (.bipush 10, 2) := by decide +kernel
theorem dX4_number_42 : decode cX4_number 42 = .ok (.irem, 1) := by decide +kernel
theorem dX4_number_43 : decode cX4_number 43 = .ok (.iadd, 1) := by decide +kernel
theorem dX4_number_44 : decode cX4_number 44 = .ok (.invokevirtual 29, 3) := by decide +kernel
theorem dX4_number_47 : decode cX4_number 47 = .ok (.iload_n 2, 1) := by decide +kernel
theorem dX4_number_48 : decode cX4_number 48 = .ok (.bipush 10, 2) := by decide +kernel
theorem dX4_number_50 : decode cX4_number 50 = .ok (.idiv, 1) := by decide +kernel
theorem dX4_number_51 : decode cX4_number 51 = .ok (.istore_n 2, 1) := by decide +kernel
theorem dX4_number_52 : decode cX4_number 52 = .ok (.goto (-23), 3) := by decide +kernel
theorem dX4_number_55 : decode cX4_number 55 = .ok (.return_, 1) := by decide +kernel
theorem dX4_sign_0 : decode cX4_sign 0 = .ok (.aload_n 0, 1) := by decide +kernel
theorem dX4_sign_1 : decode cX4_sign 1 = .ok (.getfield 15, 3) := by decide +kernel
theorem dX4_sign_4 : decode cX4_sign 4 = .ok (.aload_n 0, 1) := by decide +kernel
theorem dX4_sign_5 : decode cX4_sign 5 = .ok (.getfield 9, 3) := by decide +kernel
theorem dX4_sign_8 : decode cX4_sign 8 = .ok (.if_icmp .ne 8, 3) := by decide +kernel
theorem dX4_sign_11 : decode cX4_sign 11 = .ok (.aload_n 0, 1) := by decide +kernel
theorem dX4_sign_12 : decode cX4_sign 12 = .ok (.iload_n 1, 1) := by decide +kernel
theorem dX4_sign_13 : decode cX4_sign 13 = .ok (.putfield 18, 3) := by decide +kernel
theorem dX4_sign_16 : decode cX4_sign 16 = .ok (.aload_n 0, 1) := by decide +kernel
theorem dX4_sign_17 : decode cX4_sign 17 = .ok (.dup, 1) := by decide +kernel
theorem dX4_sign_18 : decode cX4_sign 18 = .ok (.getfield 15, 3) := by decide +kernel
theorem dX4_sign_21 : decode cX4_sign 21 = .ok (.iconst 1, 1) := by decide +kernel
theorem dX4_sign_22 : decode cX4_sign 22 = .ok (.iadd, 1) := by decide +kernel
theorem dX4_sign_23 : decode cX4_sign 23 = .ok (.putfield 15, 3) := by decide +kernel
theorem dX4_sign_26 : decode cX4_sign 26 = .ok (.return_, 1) := by decide +kernel
theorem dX5_init_0 : decode cX5_init 0 = .ok (.aload_n 0, 1) := by decide +kernel
theorem dX5_init_1 : decode cX5_init 1 = .ok (.invokespecial 1, 3) := by decide +kernel
theorem dX5_init_4 : decode cX5_init 4 = .ok (.aload_n 0, 1) := by decide +kernel
theorem dX5_init_5 : decode cX5_init 5 = .ok (.iconst 0, 1) := by decide +kernel
theorem dX5_init_6 : decode cX5_init 6 = .ok (.putfield 7, 3) := by decide +kernel
theorem dX5_init_9 : decode cX5_init 9 = .ok (.aload_n 0, 1) := by decide +kernel
theorem dX5_init_10 : decode cX5_init 10 = .ok (.sipush 500, 3) := by decide +kernel
theorem dX5_init_13 : decode cX5_init 13 = .ok (.newarray .byte, 2) := by decide +kernel
theorem dX5_init_15 : decode cX5_init 15 = .ok (.putfield 13, 3) := by decide +kernel
theorem dX5_init_18 : decode cX5_init 18 = .ok (.return_, 1) := by decide +kernel
theorem dX5_hasRoomFor_0 : decode cX5_hasRoomFor 0 = .ok (.aload_n 0, 1) := by decide +kernel
theorem dX5_hasRoomFor_1 : decode cX5_hasRoomFor 1 = .ok (.getfield 7, 3) := by decide +kernel
theorem dX5_hasRoomFor_4 : decode cX5_hasRoomFor 4 = .ok (.iload_n 1, 1) := by decide +kernel
theorem dX5_hasRoomFor_5 : decode cX5_hasRoomFor 5 = .ok (.iadd, 1) := by decide +kernel
theorem dX5_hasRoomFor_6 : decode cX5_hasRoomFor 6 = .ok (.sipush 500, 3) := by decide +kernel
theorem dX5_hasRoomFor_9 : decode cX5_hasRoomFor 9 = .ok (.if_icmp .gt 7, 3) := by decide +kernel
theorem dX5_hasRoomFor_12 : decode cX5_hasRoomFor 12 = .ok (.iconst 1, 1) := by decide +kernel
theorem dX5_hasRoomFor_13 : decode cX5_hasRoomFor 13 = .ok (.goto 4, 3) := by decide +kernel
theorem dX5_hasRoomFor_16 : decode cX5_hasRoomFor 16 = .ok (.iconst 0, 1) := by decide +kernel
theorem dX5_hasRoomFor_17 : decode cX5_hasRoomFor 17 = .ok (.ireturn, 1) := by decide +kernel
theorem dX5_put_0 : decode cX5_put 0 = .ok (.aload_n 0, 1) := by decide +kernel
theorem dX5_put_1 : decode cX5_put 1 = .ok (.iconst 4, 1) := by decide +kernel
theorem dX5_put_2 : decode cX5_put 2 = .ok (.invokevirtual 17, 3) := by decide +kernel
theorem dX5_put_5 : decode cX5_put 5 = .ok (.ifCond .ne 4, 3) := by decide +kernel
theorem dX5_put_8 : decode cX5_put 8 = .ok (.return_, 1) := by decide +kernel
theorem dX5_put_9 : decode cX5_put 9 = .ok (.bipush 24, 2) := by decide +kernel
theorem dX5_put_11 : decode cX5_put 11 = .ok (.istore_n 2, 1) := by decide +kernel
theorem dX5_put_12 : decode cX5_put 12 = .ok (.iload_n 2, 1) := by decide +kernel
theorem dX5_put_13 : decode cX5_put 13 = .ok (.ifCond .lt 32, 3) := by decide +kernel
theorem dX5_put_16 : decode cX5_put 16 = .ok (.aload_n 0, 1) := by decide +kernel
theorem dX5_put_17 : decode cX5_put 17 = .ok (.getfield 13, 3) := by decide +kernel
theorem dX5_put_20 : decode cX5_put 20 = .ok (.aload_n 0, 1) := by decide +kernel
theorem dX5_put_21 : decode cX5_put 21 = .ok (.getfield 7, 3) := by decide +kernel
theorem dX5_put_24 : decode cX5_put 24 = .ok (.iload_n 1, 1) := by decide +kernel
theorem dX5_put_25 : decode cX5_put 25 = .ok (.iload_n 2, 1) := by decide +kernel
theorem dX5_put_26 : decode cX5_put 26 = .ok (.ishr, 1) := by decide +kernel
theorem dX5_put_27 : decode cX5_put 27 = .ok (.i2b, 1) := by decide +kernel
theorem dX5_put_28 : decode cX5_put 28 = .ok (.bastore, 1) := by decide +kernel
theorem dX5_put_29 : decode cX5_put 29 = .ok (.aload_n 0, 1) := by decide +kernel
theorem dX5_put_30 : decode cX5_put 30 = .ok (.dup, 1) := by decide +kernel
theorem dX5_put_31 : decode cX5_put 31 = .ok (.getfield 7, 3) := by decide +kernel
theorem dX5_put_34 : decode cX5_put 34 = .ok (.iconst 1, 1) := by decide +kernel
theorem dX5_put_35 : decode cX5_put 35 = .ok (.iadd, 1) := by decide +kernel
theorem dX5_put_36 : decode cX5_put 36 = .ok (.putfield 7, 3) := by decide +kernel
theorem dX5_put_39 : decode cX5_put 39 = .ok (.iinc 2 (-8), 3) := by decide +kernel
theorem dX5_put_42 : decode cX5_put 42 = .ok (.goto (-30), 3) := by decide +kernel
theorem dX5_put_45 : decode cX5_put 45 = .ok (.return_, 1) := by decide +kernel
theorem dX6_init_0 : decode cX6_init 0 = .ok (.aload_n 0, 1) := by decide +kernel
theorem dX6_init_1 : decode cX6_init 1 = .ok (.invokespecial 3, 3) := by decide +kernel
theorem dX6_init_4 : decode cX6_init 4 = .ok (.aload_n 0, 1) := by decide +kernel
theorem dX6_init_5 : decode cX6_init 5 = .ok (.new 9, 3) := by decide +kernel
theorem dX6_init_8 : decode cX6_init 8 = .ok (.dup, 1) := by decide +kernel
theorem dX6_init_9 : decode cX6_init 9 = .ok (.invokespecial 11, 3) := by decide +kernel
theorem dX6_init_12 : decode cX6_init 12 = .ok (.putfield 12, 3) := by decide +kernel
theorem dX6_init_15 : decode cX6_init 15 = .ok (.aload_n 0, 1) := by decide +kernel
theorem dX6_init_16 : decode cX6_init 16 = .ok (.iconst 0, 1) := by decide +kernel
theorem dX6_init_17 : decode cX6_init 17 = .ok (.putfield 18, 3) := by decide +kernel
theorem dX6_init_20 : decode cX6_init 20 = .ok (.aload_n 0, 1) := by decide +kernel
theorem dX6_init_21 : decode cX6_init 21 = .ok (.iconst 0, 1) := by decide +kernel
theorem dX6_init_22 : decode cX6_init 22 = .ok (.putfield 22, 3) := by decide +kernel
theorem dX6_init_25 : decode cX6_init 25 = .ok (.aload_n 0, 1) := by decide +kernel
theorem dX6_init_26 : decode cX6_init 26 = .ok (.iconst 0, 1) := by decide +kernel
theorem dX6_init_27 : decode cX6_init 27 = .ok (.putfield 25, 3) := by decide +kernel
theorem dX6_init_30 : decode cX6_init 30 = .ok (.aload_n 0, 1) := by decide +kernel
theorem dX6_init_31 : decode cX6_init 31 = .ok (.iconst (-1), 1) := by decide +kernel
theorem dX6_init_32 : decode cX6_init 32 = .ok (.putfield 28, 3) := by decide +kernel
theorem dX6_init_35 : decode cX6_init 35 = .ok (.return_, 1) := by decide +kernel
theorem dX6_read_0 : decode cX6_read 0 = .ok (.aload_n 1, 1) := by decide +kernel
theorem dX6_read_1 : decode cX6_read 1 = .ok (.invokevirtual 31, 3) := by decide +kernel
theorem dX6_read_4 : decode cX6_read 4 = .ok (.aload_n 0, 1) := by decide +kernel
theorem dX6_read_5 : decode cX6_read 5 = .ok (.iconst (-1), 1) := by decide +kernel
theorem dX6_read_6 : decode cX6_read 6 = .ok (.putfield 28, 3) := by decide +kernel
theorem dX6_read_9 : decode cX6_read 9 = .ok (.aload_n 0, 1) := by decide +kernel
theorem dX6_read_10 : decode cX6_read 10 = .ok (.iconst 0, 1) := by decide +kernel
theorem dX6_read_11 : decode cX6_read 11 = .ok (.putfield 18, 3) := by decide +kernel
theorem dX6_read_14 : decode cX6_read 14 = .ok (.aload_n 0, 1) := by decide +kernel
theorem dX6_read_15 : decode cX6_read 15 = .ok (.iconst 0, 1) := by decide +kernel
theorem dX6_read_16 : decode cX6_read 16 = .ok (.putfield 25, 3) := by decide +kernel
theorem dX6_read_19 : decode cX6_read 19 = .ok (.aload_n 0, 1) := by decide +kernel
theorem dX6_read_20 : decode cX6_read 20 = .ok (.invokevirtual 36, 3) := by decide +kernel
theorem dX6_read_23 : decode cX6_read 23 = .ok (.iconst 0, 1) := by decide +kernel
theorem dX6_read_24 : decode cX6_read 24 = .ok (.istore_n 2, 1) := by decide +kernel
theorem dX6_read_25 : decode cX6_read 25 = .ok (.iload_n 2, 1) := by decide +kernel
theorem dX6_read_26 : decode cX6_read 26 = .ok (.sipush 500, 3) := by decide +kernel
theorem dX6_read_29 : decode cX6_read 29 = .ok (.if_icmp .ge 120, 3) := by decide +kernel
theorem dX6_read_32 : decode cX6_read 32 = .ok (.aload_n 0, 1) := by decide +kernel
theorem dX6_read_33 : decode cX6_read 33 = .ok (.getfield 28, 3) := by decide +kernel
theorem dX6_read_36 : decode cX6_read 36 = .ok (.iconst (-1), 1) := by decide +kernel
theorem dX6_read_37 : decode cX6_read 37 = .ok (.if_icmp .ne 112, 3) := by decide +kernel
theorem dX6_read_40 : decode cX6_read 40 = .ok (.aload_n 0, 1) := by decide +kernel
theorem dX6_read_41 : decode cX6_read 41 = .ok (.getfield 18, 3) := by decide +kernel
theorem dX6_read_44 : decode cX6_read 44 = .ok (.ifCond .eq 105, 3) := by decide +kernel
theorem dX6_read_47 : decode cX6_read 47 = .ok (.aload_n 0, 1) := by decide +kernel
theorem dX6_read_48 : decode cX6_read 48 = .ok (.ldc 39, 2) := by decide +kernel
theorem dX6_read_50 : decode cX6_read 50 = .ok (.invokevirtual 41, 3) := by decide +kernel
theorem dX6_read_53 : decode cX6_read 53 = .ok (.ifCond .eq 21, 3) := by decide +kernel
theorem dX6_read_56 : decode cX6_read 56 = .ok (.aload_n 0, 1) := by decide +kernel
theorem dX6_read_57 : decode cX6_read 57 = .ok (.invokevirtual 36, 3) := by decide +kernel
theorem dX6_read_60 : decode cX6_read 60 = .ok (.aload_n 1, 1) := by decide +kernel
theorem dX6_read_61 : decode cX6_read 61 = .ok (.aload_n 0, 1) := by decide +kernel
theorem dX6_read_62 : decode cX6_read 62 = .ok (.iconst 1, 1) := by decide +kernel
theorem dX6_read_63 : decode cX6_read 63 = .ok (.bipush 30, 2) := by decide +kernel
theorem dX6_read_65 : decode cX6_read 65 = .ok (.invokevirtual 45, 3) := by decide +kernel
theorem dX6_read_68 : decode cX6_read 68 = .ok (.putfield 49, 3) := by decide +kernel
theorem dX6_read_71 : decode cX6_read 71 = .ok (.goto 68, 3) := by decide +kernel
theorem dX6_read_74 : decode cX6_read 74 = .ok (.aload_n 0, 1) := by decide +kernel
theorem dX6_read_75 : decode cX6_read 75 = .ok (.ldc 51, 2) := by decide +kernel
theorem dX6_read_77 : decode cX6_read 77 = .ok (.invokevirtual 41, 3) := by decide +kernel
theorem dX6_read_80 : decode cX6_read 80 = .ok (.ifCond .eq 21, 3) := by decide +kernel
theorem dX6_read_83 : decode cX6_read 83 = .ok (.aload_n 0, 1) := by decide +kernel
theorem dX6_read_84 : decode cX6_read 84 = .ok (.invokevirtual 36, 3) := by decide +kernel
theorem dX6_read_87 : decode cX6_read 87 = .ok (.aload_n 1, 1) := by decide +kernel
theorem dX6_read_88 : decode cX6_read 88 = .ok (.aload_n 0, 1) := by decide +kernel
theorem dX6_read_89 : decode cX6_read 89 = .ok (.iconst 0, 1) := by decide +kernel
theorem dX6_read_90 : decode cX6_read 90 = .ok (.bipush 99, 2) := by decide +kernel
theorem dX6_read_92 : decode cX6_read 92 = .ok (.invokevirtual 45, 3) := by decide +kernel
theorem dX6_read_95 : decode cX6_read 95 = .ok (.putfield 53, 3) := by decide +kernel
theorem dX6_read_98 : decode cX6_read 98 = .ok (.goto 41, 3) := by decide +kernel
theorem dX6_read_101 : decode cX6_read 101 = .ok (.aload_n 0, 1) := by decide +kernel
theorem dX6_read_102 : decode cX6_read 102 = .ok (.ldc 55, 2) := by decide +kernel
theorem dX6_read_104 : decode cX6_read 104 = .ok (.invokevirtual 41, 3) := by decide +kernel
theorem dX6_read_107 : decode cX6_read 107 = .ok (.ifCond .eq 28, 3) := by decide +kernel
theorem dX6_read_110 : decode cX6_read 110 = .ok (.aload_n 1, 1) := by decide +kernel
theorem dX6_read_111 : decode cX6_read 111 = .ok (.getfield 57, 3) := by decide +kernel
theorem dX6_read_114 : decode cX6_read 114 = .ok (.bipush 8, 2) := by decide +kernel
theorem dX6_read_116 : decode cX6_read 116 = .ok (.if_icmp .ge 19, 3) := by decide +kernel
theorem dX6_read_119 : decode cX6_read 119 = .ok (.aload_n 0, 1) := by decide +kernel
theorem dX6_read_120 : decode cX6_read 120 = .ok (.invokevirtual 36, 3) := by decide +kernel
theorem dX6_read_123 : decode cX6_read 123 = .ok (.aload_n 0, 1) := by decide +kernel
theorem dX6_read_124 : decode cX6_read 124 = .ok (.aload_n 1, 1) := by decide +kernel
theorem dX6_read_125 : decode cX6_read 125 = .ok (.aload_n 1, 1) := by decide +kernel
theorem dX6_read_126 : decode cX6_read 126 = .ok (.invokevirtual 60, 3) := by decide +kernel
theorem dX6_read_129 : decode cX6_read 129 = .ok (.invokevirtual 64, 3) := by decide +kernel
theorem dX6_read_132 : decode cX6_read 132 = .ok (.goto 7, 3) := by decide +kernel
theorem dX6_read_135 : decode cX6_read 135 = .ok (.aload_n 0, 1) := by decide +kernel
theorem dX6_read_136 : decode cX6_read 136 = .ok (.invokevirtual 68, 3) := by decide +kernel
theorem dX6_read_139 : decode cX6_read 139 = .ok (.aload_n 0, 1) := by decide +kernel
theorem dX6_read_140 : decode cX6_read 140 = .ok (.invokevirtual 71, 3) := by decide +kernel
theorem dX6_read_143 : decode cX6_read 143 = .ok (.iinc 2 1, 3) := by decide +kernel
theorem dX6_read_146 : decode cX6_read 146 = .ok (.goto (-121), 3) := by decide +kernel
theorem dX6_read_149 : decode cX6_read 149 = .ok (.aload_n 0, 1) := by decide +kernel
theorem dX6_read_150 : decode cX6_read 150 = .ok (.getfield 28, 3) := by decide +kernel
theorem dX6_read_153 : decode cX6_read 153 = .ok (.ireturn, 1) := by decide +kernel
theorem dX6_readBidder_0 : decode cX6_readBidder 0 = .ok (.bipush 99, 2) := by decide +kernel
theorem dX6_readBidder_2 : decode cX6_readBidder 2 = .ok (.istore_n 3, 1) := by decide +kernel
theorem dX6_readBidder_3 : decode cX6_readBidder 3 = .ok (.iconst 0, 1) := by decide +kernel
theorem dX6_readBidder_4 : decode cX6_readBidder 4 = .ok (.istore 4, 2) := by decide +kernel
theorem dX6_readBidder_6 : decode cX6_readBidder 6 = .ok (.iload 4, 2) := by decide +kernel
theorem dX6_readBidder_8 : decode cX6_readBidder 8 = .ok (.bipush 8, 2) := by decide +kernel
theorem dX6_readBidder_10 : decode cX6_readBidder 10 = .ok (.if_icmp .ge 38, 3) := by decide +kernel
theorem dX6_readBidder_13 : decode cX6_readBidder 13 = .ok (.aload_n 0, 1) := by decide +kernel
theorem dX6_readBidder_14 : decode cX6_readBidder 14 = .ok (.getfield 18, 3) := by decide +kernel
theorem dX6_readBidder_17 : decode cX6_readBidder 17 = .ok (.iconst 2, 1) := by decide +kernel
theorem dX6_readBidder_18 : decode cX6_readBidder 18 = .ok (.if_icmp .ne 30, 3) := by decide +kernel
theorem dX6_readBidder_21 : decode cX6_readBidder 21 = .ok (.aload_n 0, 1) := by decide +kernel
theorem dX6_readBidder_22 : decode cX6_readBidder 22 = .ok (.getfield 28, 3) := by decide +kernel
theorem dX6_readBidder_25 : decode cX6_readBidder 25 = .ok (.iconst (-1), 1) := by decide +kernel
theorem dX6_readBidder_26 : decode cX6_readBidder 26 = .ok (.if_icmp .ne 22, 3) := by decide +kernel
theorem dX6_readBidder_29 : decode cX6_readBidder 29 = .ok (.aload_n 0, 1) := by decide +kernel
theorem dX6_readBidder_30 : decode cX6_readBidder 30 = .ok (.iconst 0, 1) := by decide +kernel
theorem dX6_readBidder_31 : decode cX6_readBidder 31 = .ok (.iload_n 3, 1) := by decide +kernel
theorem dX6_readBidder_32 : decode cX6_readBidder 32 = .ok (.invokevirtual 45, 3) := by decide +kernel
theorem dX6_readBidder_35 : decode cX6_readBidder 35 = .ok (.istore_n 3, 1) := by decide +kernel
theorem dX6_readBidder_36 : decode cX6_readBidder 36 = .ok (.aload_n 1, 1) := by decide +kernel
theorem dX6_readBidder_37 : decode cX6_readBidder 37 = .ok (.iload_n 2, 1) := by decide +kernel
theorem dX6_readBidder_38 : decode cX6_readBidder 38 = .ok (.iload_n 3, 1) := by decide +kernel
theorem dX6_readBidder_39 : decode cX6_readBidder 39 = .ok (.invokevirtual 74, 3) := by decide +kernel
theorem dX6_readBidder_42 : decode cX6_readBidder 42 = .ok (.iinc 4 1, 3) := by decide +kernel
theorem dX6_readBidder_45 : decode cX6_readBidder 45 = .ok (.goto (-39), 3) := by decide +kernel
theorem dX6_readBidder_48 : decode cX6_readBidder 48 = .ok (.aload_n 0, 1) := by decide +kernel
theorem dX6_readBidder_49 : decode cX6_readBidder 49 = .ok (.getfield 28, 3) := by decide +kernel
theorem dX6_readBidder_52 : decode cX6_readBidder 52 = .ok (.iconst (-1), 1) := by decide +kernel
theorem dX6_readBidder_53 : decode cX6_readBidder 53 = .ok (.if_icmp .ne 29, 3) := by decide +kernel
theorem dX6_readBidder_56 : decode cX6_readBidder 56 = .ok (.aload_n 0, 1) := by decide +kernel
theorem dX6_readBidder_57 : decode cX6_readBidder 57 = .ok (.ldc 78, 2) := by decide +kernel
theorem dX6_readBidder_59 : decode cX6_readBidder 59 = .ok (.invokevirtual 41, 3) := by decide +kernel
theorem dX6_readBidder_62 : decode cX6_readBidder 62 = .ok (.ifCond .eq 20, 3) := by decide +kernel
theorem dX6_readBidder_65 : decode cX6_readBidder 65 = .ok (.aload_n 0, 1) := by decide +kernel
theorem dX6_readBidder_66 : decode cX6_readBidder 66 = .ok (.invokevirtual 36, 3) := by decide +kernel
theorem dX6_readBidder_69 : decode cX6_readBidder 69 = .ok (.aload_n 1, 1) := by decide +kernel
theorem dX6_readBidder_70 : decode cX6_readBidder 70 = .ok (.getfield 80, 3) := by decide +kernel
theorem dX6_readBidder_73 : decode cX6_readBidder 73 = .ok (.iload_n 2, 1) := by decide +kernel
theorem dX6_readBidder_74 : decode cX6_readBidder 74 = .ok (.aload_n 0, 1) := by decide +kernel
theorem dX6_readBidder_75 : decode cX6_readBidder 75 = .ok (.iconst 0, 1) := by decide +kernel
theorem dX6_readBidder_76 : decode cX6_readBidder 76 = .ok (.bipush 8, 2) := by decide +kernel
theorem dX6_readBidder_78 : decode cX6_readBidder 78 = .ok (.invokevirtual 45, 3) := by decide +kernel
theorem dX6_readBidder_81 : decode cX6_readBidder 81 = .ok (.iastore, 1) := by decide +kernel
theorem dX6_readBidder_82 : decode cX6_readBidder 82 = .ok (.return_, 1) := by decide +kernel
theorem dX6_readSemicolon_0 : decode cX6_readSemicolon 0 = .ok (.aload_n 0, 1) := by decide +kernel
theorem dX6_readSemicolon_1 : decode cX6_readSemicolon 1 = .ok (.getfield 28, 3) := by decide +kernel
theorem dX6_readSemicolon_4 : decode cX6_readSemicolon 4 = .ok (.iconst (-1), 1) := by decide +kernel
theorem dX6_readSemicolon_5 : decode cX6_readSemicolon 5 = .ok (.if_icmp .ne 18, 3) := by decide +kernel
theorem dX6_readSemicolon_8 : decode cX6_readSemicolon 8 = .ok (.aload_n 0, 1) := by decide +kernel
theorem dX6_readSemicolon_9 : decode cX6_readSemicolon 9 = .ok (.getfield 18, 3) := by decide +kernel
theorem dX6_readSemicolon_12 : decode cX6_readSemicolon 12 = .ok (.iconst 3, 1) := by decide +kernel
theorem dX6_readSemicolon_13 : decode cX6_readSemicolon 13 = .ok (.if_icmp .ne 10, 3) := by decide +kernel
theorem dX6_readSemicolon_16 : decode cX6_readSemicolon 16 = .ok (.aload_n 0, 1) := by decide +kernel
theorem dX6_readSemicolon_17 : decode cX6_readSemicolon 17 = .ok (.invokevirtual 36, 3) := by decide +kernel
theorem dX6_readSemicolon_20 : decode cX6_readSemicolon 20 = .ok (.goto 7, 3) := by decide +kernel
theorem dX6_readSemicolon_23 : decode cX6_readSemicolon 23 = .ok (.aload_n 0, 1) := by decide +kernel
theorem dX6_readSemicolon_24 : decode cX6_readSemicolon 24 = .ok (.invokevirtual 68, 3) := by decide +kernel
theorem dX6_readSemicolon_27 : decode cX6_readSemicolon 27 = .ok (.return_, 1) := by decide +kernel
theorem dX6_readNumber_0 : decode cX6_readNumber 0 = .ok (.aload_n 0, 1) := by decide +kernel
theorem dX6_readNumber_1 : decode cX6_readNumber 1 = .ok (.getfield 18, 3) := by decide +kernel
theorem dX6_readNumber_4 : decode cX6_readNumber 4 = .ok (.iconst 2, 1) := by decide +kernel
theorem dX6_readNumber_5 : decode cX6_readNumber 5 = .ok (.if_icmp .ne 10, 3) := by decide +kernel
theorem dX6_readNumber_8 : decode cX6_readNumber 8 = .ok (.aload_n 0, 1) := by decide +kernel
theorem dX6_readNumber_9 : decode cX6_readNumber 9 = .ok (.invokevirtual 84, 3) := by decide +kernel
theorem dX6_readNumber_12 : decode cX6_readNumber 12 = .ok (.goto 4, 3) := by decide +kernel
theorem dX6_readNumber_15 : decode cX6_readNumber 15 = .ok (.iconst (-1), 1) := by decide +kernel
theorem dX6_readNumber_16 : decode cX6_readNumber 16 = .ok (.istore_n 3, 1) := by decide +kernel
theorem dX6_readNumber_17 : decode cX6_readNumber 17 = .ok (.iload_n 3, 1) := by decide +kernel
theorem dX6_readNumber_18 : decode cX6_readNumber 18 = .ok (.iload_n 1, 1) := by decide +kernel
theorem dX6_readNumber_19 : decode cX6_readNumber 19 = .ok (.if_icmp .lt 8, 3) := by decide +kernel
theorem dX6_readNumber_22 : decode cX6_readNumber 22 = .ok (.iload_n 3, 1) := by decide +kernel
theorem dX6_readNumber_23 : decode cX6_readNumber 23 = .ok (.iload_n 2, 1) := by decide +kernel
theorem dX6_readNumber_24 : decode cX6_readNumber 24 = .ok (.if_icmp .le 9, 3) := by decide +kernel
theorem dX6_readNumber_27 : decode cX6_readNumber 27 = .ok (.aload_n 0, 1) := by decide +kernel
theorem dX6_readNumber_28 : decode cX6_readNumber 28 = .ok (.invokevirtual 68, 3) := by decide +kernel
theorem dX6_readNumber_31 : decode cX6_readNumber 31 = .ok (.iload_n 1, 1) := by decide +kernel
theorem dX6_readNumber_32 : decode cX6_readNumber 32 = .ok (.ireturn, 1) := by decide +kernel
theorem dX6_readNumber_33 : decode cX6_readNumber 33 = .ok (.aload_n 0, 1) := by decide +kernel
theorem dX6_readNumber_34 : decode cX6_readNumber 34 = .ok (.invokevirtual 36, 3) := by decide +kernel
theorem dX6_readNumber_37 : decode cX6_readNumber 37 = .ok (.iload_n 3, 1) := by decide +kernel
theorem dX6_readNumber_38 : decode cX6_readNumber 38 = .ok (.ireturn, 1) := by decide +kernel
theorem dX6_numberHere_0 : decode cX6_numberHere 0 = .ok (.aload_n 0, 1) := by decide +kernel
theorem dX6_numberHere_1 : decode cX6_numberHere 1 = .ok (.getfield 25, 3) := by decide +kernel
theorem dX6_numberHere_4 : decode cX6_numberHere 4 = .ok (.aload_n 0, 1) := by decide +kernel
theorem dX6_numberHere_5 : decode cX6_numberHere 5 = .ok (.getfield 22, 3) := by decide +kernel
theorem dX6_numberHere_8 : decode cX6_numberHere 8 = .ok (.isub, 1) := by decide +kernel
theorem dX6_numberHere_9 : decode cX6_numberHere 9 = .ok (.iconst 2, 1) := by decide +kernel
theorem dX6_numberHere_10 : decode cX6_numberHere 10 = .ok (.if_icmp .le 5, 3) := by decide +kernel
theorem dX6_numberHere_13 : decode cX6_numberHere 13 = .ok (.iconst (-1), 1) := by decide +kernel
theorem dX6_numberHere_14 : decode cX6_numberHere 14 = .ok (.ireturn, 1) := by decide +kernel
theorem dX6_numberHere_15 : decode cX6_numberHere 15 = .ok (.iconst 0, 1) := by decide +kernel
theorem dX6_numberHere_16 : decode cX6_numberHere 16 = .ok (.istore_n 1, 1) := by decide +kernel
theorem dX6_numberHere_17 : decode cX6_numberHere 17 = .ok (.aload_n 0, 1) := by decide +kernel
theorem dX6_numberHere_18 : decode cX6_numberHere 18 = .ok (.getfield 22, 3) := by decide +kernel
theorem dX6_numberHere_21 : decode cX6_numberHere 21 = .ok (.istore_n 2, 1) := by decide +kernel
theorem dX6_numberHere_22 : decode cX6_numberHere 22 = .ok (.iload_n 2, 1) := by decide +kernel
theorem dX6_numberHere_23 : decode cX6_numberHere 23 = .ok (.aload_n 0, 1) := by decide +kernel
theorem dX6_numberHere_24 : decode cX6_numberHere 24 = .ok (.getfield 25, 3) := by decide +kernel
theorem dX6_numberHere_27 : decode cX6_numberHere 27 = .ok (.if_icmp .ge 27, 3) := by decide +kernel
theorem dX6_numberHere_30 : decode cX6_numberHere 30 = .ok (.iload_n 1, 1) := by decide +kernel
theorem dX6_numberHere_31 : decode cX6_numberHere 31 = .ok (.bipush 10, 2) := by decide +kernel
theorem dX6_numberHere_33 : decode cX6_numberHere 33 = .ok (.imul, 1) := by decide +kernel
theorem dX6_numberHere_34 : decode cX6_numberHere 34 = .ok (.aload_n 0, 1) := by decide +kernel
theorem dX6_numberHere_35 : decode cX6_numberHere 35 = .ok (.getfield 12, 3) := by decide +kernel
theorem dX6_numberHere_38 : decode cX6_numberHere 38 = .ok (.getfield 87, 3) := by decide +kernel
theorem dX6_numberHere_41 : decode cX6_numberHere 41 = .ok (.iload_n 2, 1) := by decide +kernel
theorem dX6_numberHere_42 : decode cX6_numberHere 42 = .ok (.baload, 1) := by decide +kernel
theorem dX6_numberHere_43 : decode cX6_numberHere 43 = .ok (.bipush 48, 2) := by decide +kernel
theorem dX6_numberHere_45 : decode cX6_numberHere 45 = .ok (.isub, 1) := by decide +kernel
theorem dX6_numberHere_46 : decode cX6_numberHere 46 = .ok (.iadd, 1) := by decide +kernel
theorem dX6_numberHere_47 : decode cX6_numberHere 47 = .ok (.istore_n 1, 1) := by decide +kernel
theorem dX6_numberHere_48 : decode cX6_numberHere 48 = .ok (.iinc 2 1, 3) := by decide +kernel
theorem dX6_numberHere_51 : decode cX6_numberHere 51 = .ok (.goto (-29), 3) := by decide +kernel
theorem dX6_numberHere_54 : decode cX6_numberHere 54 = .ok (.iload_n 1, 1) := by decide +kernel
theorem dX6_numberHere_55 : decode cX6_numberHere 55 = .ok (.ireturn, 1) := by decide +kernel
theorem dX6_fail_0 : decode cX6_fail 0 = .ok (.aload_n 0, 1) := by decide +kernel
theorem dX6_fail_1 : decode cX6_fail 1 = .ok (.getfield 28, 3) := by decide +kernel
theorem dX6_fail_4 : decode cX6_fail 4 = .ok (.iconst (-1), 1) := by decide +kernel
theorem dX6_fail_5 : decode cX6_fail 5 = .ok (.if_icmp .ne 11, 3) := by decide +kernel
theorem dX6_fail_8 : decode cX6_fail 8 = .ok (.aload_n 0, 1) := by decide +kernel
theorem dX6_fail_9 : decode cX6_fail 9 = .ok (.aload_n 0, 1) := by decide +kernel
theorem dX6_fail_10 : decode cX6_fail 10 = .ok (.getfield 22, 3) := by decide +kernel
theorem dX6_fail_13 : decode cX6_fail 13 = .ok (.putfield 28, 3) := by decide +kernel
theorem dX6_fail_16 : decode cX6_fail 16 = .ok (.return_, 1) := by decide +kernel
theorem dX6_isWord_0 : decode cX6_isWord 0 = .ok (.aload_n 0, 1) := by decide +kernel
theorem dX6_isWord_1 : decode cX6_isWord 1 = .ok (.getfield 18, 3) := by decide +kernel
theorem dX6_isWord_4 : decode cX6_isWord 4 = .ok (.iconst 1, 1) := by decide +kernel
theorem dX6_isWord_5 : decode cX6_isWord 5 = .ok (.if_icmp .ne 19, 3) := by decide +kernel
theorem dX6_isWord_8 : decode cX6_isWord 8 = .ok (.aload_n 0, 1) := by decide +kernel
theorem dX6_isWord_9 : decode cX6_isWord 9 = .ok (.getfield 25, 3) := by decide +kernel
theorem dX6_isWord_12 : decode cX6_isWord 12 = .ok (.aload_n 0, 1) := by decide +kernel
theorem dX6_isWord_13 : decode cX6_isWord 13 = .ok (.getfield 22, 3) := by decide +kernel
theorem dX6_isWord_16 : decode cX6_isWord 16 = .ok (.isub, 1) := by decide +kernel
theorem dX6_isWord_17 : decode cX6_isWord 17 = .ok (.aload_n 1, 1) := by decide +kernel
theorem dX6_isWord_18 : decode cX6_isWord 18 = .ok (.invokevirtual 91, 3) := by decide +kernel
theorem dX6_isWord_21 : decode cX6_isWord 21 = .ok (.if_icmp .eq 5, 3) := by decide +kernel
theorem dX6_isWord_24 : decode cX6_isWord 24 = .ok (.iconst 0, 1) := by decide +kernel
theorem dX6_isWord_25 : decode cX6_isWord 25 = .ok (.ireturn, 1) := by decide +kernel
theorem dX6_isWord_26 : decode cX6_isWord 26 = .ok (.iconst 0, 1) := by decide +kernel
theorem dX6_isWord_27 : decode cX6_isWord 27 = .ok (.istore_n 2, 1) := by decide +kernel
theorem dX6_isWord_28 : decode cX6_isWord 28 = .ok (.iload_n 2, 1) := by decide +kernel
theorem dX6_isWord_29 : decode cX6_isWord 29 = .ok (.aload_n 1, 1) := by decide +kernel
theorem dX6_isWord_30 : decode cX6_isWord 30 = .ok (.invokevirtual 91, 3) := by decide +kernel
theorem dX6_isWord_33 : decode cX6_isWord 33 = .ok (.if_icmp .ge 33, 3) := by decide +kernel
theorem dX6_isWord_36 : decode cX6_isWord 36 = .ok (.aload_n 0, 1) := by decide +kernel
theorem dX6_isWord_37 : decode cX6_isWord 37 = .ok (.getfield 12, 3) := by decide +kernel
theorem dX6_isWord_40 : decode cX6_isWord 40 = .ok (.getfield 87, 3) := by decide +kernel
theorem dX6_isWord_43 : decode cX6_isWord 43 = .ok (.aload_n 0, 1) := by decide +kernel
theorem dX6_isWord_44 : decode cX6_isWord 44 = .ok (.getfield 22, 3) := by decide +kernel
theorem dX6_isWord_47 : decode cX6_isWord 47 = .ok (.iload_n 2, 1) := by decide +kernel
theorem dX6_isWord_48 : decode cX6_isWord 48 = .ok (.iadd, 1) := by decide +kernel
theorem dX6_isWord_49 : decode cX6_isWord 49 = .ok (.baload, 1) := by decide +kernel
theorem dX6_isWord_50 : decode cX6_isWord 50 = .ok (.aload_n 1, 1) := by decide +kernel
theorem dX6_isWord_51 : decode cX6_isWord 51 = .ok (.iload_n 2, 1) := by decide +kernel
theorem dX6_isWord_52 : decode cX6_isWord 52 = .ok (.invokevirtual 96, 3) := by decide +kernel
theorem dX6_isWord_55 : decode cX6_isWord 55 = .ok (.if_icmp .eq 5, 3) := by decide +kernel
theorem dX6_isWord_58 : decode cX6_isWord 58 = .ok (.iconst 0, 1) := by decide +kernel
theorem dX6_isWord_59 : decode cX6_isWord 59 = .ok (.ireturn, 1) := by decide +kernel
theorem dX6_isWord_60 : decode cX6_isWord 60 = .ok (.iinc 2 1, 3) := by decide +kernel
theorem dX6_isWord_63 : decode cX6_isWord 63 = .ok (.goto (-35), 3) := by decide +kernel
theorem dX6_isWord_66 : decode cX6_isWord 66 = .ok (.iconst 1, 1) := by decide +kernel
theorem dX6_isWord_67 : decode cX6_isWord 67 = .ok (.ireturn, 1) := by decide +kernel
theorem dX6_advance_0 : decode cX6_advance 0 = .ok (.aload_n 0, 1) := by decide +kernel
theorem dX6_advance_1 : decode cX6_advance 1 = .ok (.getfield 18, 3) := by decide +kernel
theorem dX6_advance_4 : decode cX6_advance 4 = .ok (.iconst 1, 1) := by decide +kernel
theorem dX6_advance_5 : decode cX6_advance 5 = .ok (.if_icmp .eq 11, 3) := by decide +kernel
theorem dX6_advance_8 : decode cX6_advance 8 = .ok (.aload_n 0, 1) := by decide +kernel
theorem dX6_advance_9 : decode cX6_advance 9 = .ok (.getfield 18, 3) := by decide +kernel
theorem dX6_advance_12 : decode cX6_advance 12 = .ok (.iconst 2, 1) := by decide +kernel
theorem dX6_advance_13 : decode cX6_advance 13 = .ok (.if_icmp .ne 7, 3) := by decide +kernel
theorem dX6_advance_16 : decode cX6_advance 16 = .ok (.iconst 1, 1) := by decide +kernel
theorem dX6_advance_17 : decode cX6_advance 17 = .ok (.goto 4, 3) := by decide +kernel
theorem dX6_advance_20 : decode cX6_advance 20 = .ok (.iconst 0, 1) := by decide +kernel
theorem dX6_advance_21 : decode cX6_advance 21 = .ok (.istore_n 1, 1) := by decide +kernel
theorem dX6_advance_22 : decode cX6_advance 22 = .ok (.aload_n 0, 1) := by decide +kernel
theorem dX6_advance_23 : decode cX6_advance 23 = .ok (.getfield 25, 3) := by decide +kernel
theorem dX6_advance_26 : decode cX6_advance 26 = .ok (.istore_n 2, 1) := by decide +kernel
theorem dX6_advance_27 : decode cX6_advance 27 = .ok (.aload_n 0, 1) := by decide +kernel
theorem dX6_advance_28 : decode cX6_advance 28 = .ok (.aload_n 0, 1) := by decide +kernel
theorem dX6_advance_29 : decode cX6_advance 29 = .ok (.iload_n 2, 1) := by decide +kernel
theorem dX6_advance_30 : decode cX6_advance 30 = .ok (.iconst 5, 1) := by decide +kernel
theorem dX6_advance_31 : decode cX6_advance 31 = .ok (.invokevirtual 100, 3) := by decide +kernel
theorem dX6_advance_34 : decode cX6_advance 34 = .ok (.putfield 22, 3) := by decide +kernel
theorem dX6_advance_37 : decode cX6_advance 37 = .ok (.aload_n 0, 1) := by decide +kernel
theorem dX6_advance_38 : decode cX6_advance 38 = .ok (.aload_n 0, 1) := by decide +kernel
theorem dX6_advance_39 : decode cX6_advance 39 = .ok (.getfield 22, 3) := by decide +kernel
theorem dX6_advance_42 : decode cX6_advance 42 = .ok (.aload_n 0, 1) := by decide +kernel
theorem dX6_advance_43 : decode cX6_advance 43 = .ok (.getfield 12, 3) := by decide +kernel
theorem dX6_advance_46 : decode cX6_advance 46 = .ok (.getfield 103, 3) := by decide +kernel
theorem dX6_advance_49 : decode cX6_advance 49 = .ok (.if_icmp .ge 21, 3) := by decide +kernel
theorem dX6_advance_52 : decode cX6_advance 52 = .ok (.aload_n 0, 1) := by decide +kernel
theorem dX6_advance_53 : decode cX6_advance 53 = .ok (.getfield 12, 3) := by decide +kernel
theorem dX6_advance_56 : decode cX6_advance 56 = .ok (.getfield 87, 3) := by decide +kernel
theorem dX6_advance_59 : decode cX6_advance 59 = .ok (.aload_n 0, 1) := by decide +kernel
theorem dX6_advance_60 : decode cX6_advance 60 = .ok (.getfield 22, 3) := by decide +kernel
theorem dX6_advance_63 : decode cX6_advance 63 = .ok (.baload, 1) := by decide +kernel
theorem dX6_advance_64 : decode cX6_advance 64 = .ok (.invokestatic 105, 3) := by decide +kernel
theorem dX6_advance_67 : decode cX6_advance 67 = .ok (.goto 4, 3) := by decide +kernel
theorem dX6_advance_70 : decode cX6_advance 70 = .ok (.iconst 0, 1) := by decide +kernel
theorem dX6_advance_71 : decode cX6_advance 71 = .ok (.putfield 18, 3) := by decide +kernel
theorem dX6_advance_74 : decode cX6_advance 74 = .ok (.aload_n 0, 1) := by decide +kernel
theorem dX6_advance_75 : decode cX6_advance 75 = .ok (.getfield 18, 3) := by decide +kernel
theorem dX6_advance_78 : decode cX6_advance 78 = .ok (.iconst 1, 1) := by decide +kernel
theorem dX6_advance_79 : decode cX6_advance 79 = .ok (.if_icmp .eq 11, 3) := by decide +kernel
theorem dX6_advance_82 : decode cX6_advance 82 = .ok (.aload_n 0, 1) := by decide +kernel
theorem dX6_advance_83 : decode cX6_advance 83 = .ok (.getfield 18, 3) := by decide +kernel
theorem dX6_advance_86 : decode cX6_advance 86 = .ok (.iconst 2, 1) := by decide +kernel
theorem dX6_advance_87 : decode cX6_advance 87 = .ok (.if_icmp .ne 7, 3) := by decide +kernel
theorem dX6_advance_90 : decode cX6_advance 90 = .ok (.iconst 1, 1) := by decide +kernel
theorem dX6_advance_91 : decode cX6_advance 91 = .ok (.goto 4, 3) := by decide +kernel
theorem dX6_advance_94 : decode cX6_advance 94 = .ok (.iconst 0, 1) := by decide +kernel
theorem dX6_advance_95 : decode cX6_advance 95 = .ok (.istore_n 3, 1) := by decide +kernel
theorem dX6_advance_96 : decode cX6_advance 96 = .ok (.aload_n 0, 1) := by decide +kernel
theorem dX6_advance_97 : decode cX6_advance 97 = .ok (.iload_n 3, 1) := by decide +kernel
theorem dX6_advance_98 : decode cX6_advance 98 = .ok (.ifCond .eq 18, 3) := by decide +kernel
theorem dX6_advance_101 : decode cX6_advance 101 = .ok (.aload_n 0, 1) := by decide +kernel
theorem dX6_advance_102 : decode cX6_advance 102 = .ok (.aload_n 0, 1) := by decide +kernel
theorem dX6_advance_103 : decode cX6_advance 103 = .ok (.getfield 22, 3) := by decide +kernel
theorem dX6_advance_106 : decode cX6_advance 106 = .ok (.aload_n 0, 1) := by decide +kernel
theorem dX6_advance_107 : decode cX6_advance 107 = .ok (.getfield 18, 3) := by decide +kernel
theorem dX6_advance_110 : decode cX6_advance 110 = .ok (.invokevirtual 100, 3) := by decide +kernel
theorem dX6_advance_113 : decode cX6_advance 113 = .ok (.goto 19, 3) := by decide +kernel
theorem dX6_advance_116 : decode cX6_advance 116 = .ok (.aload_n 0, 1) := by decide +kernel
theorem dX6_advance_117 : decode cX6_advance 117 = .ok (.getfield 22, 3) := by decide +kernel
theorem dX6_advance_120 : decode cX6_advance 120 = .ok (.iconst 1, 1) := by decide +kernel
theorem dX6_advance_121 : decode cX6_advance 121 = .ok (.iadd, 1) := by decide +kernel
theorem dX6_advance_122 : decode cX6_advance 122 = .ok (.aload_n 0, 1) := by decide +kernel
theorem dX6_advance_123 : decode cX6_advance 123 = .ok (.getfield 12, 3) := by decide +kernel
theorem dX6_advance_126 : decode cX6_advance 126 = .ok (.getfield 103, 3) := by decide +kernel
theorem dX6_advance_129 : decode cX6_advance 129 = .ok (.invokestatic 109, 3) := by decide +kernel
theorem dX6_advance_132 : decode cX6_advance 132 = .ok (.putfield 25, 3) := by decide +kernel
theorem dX6_advance_135 : decode cX6_advance 135 = .ok (.iload_n 1, 1) := by decide +kernel
theorem dX6_advance_136 : decode cX6_advance 136 = .ok (.ifCond .eq 20, 3) := by decide +kernel
theorem dX6_advance_139 : decode cX6_advance 139 = .ok (.iload_n 3, 1) := by decide +kernel
theorem dX6_advance_140 : decode cX6_advance 140 = .ok (.ifCond .eq 16, 3) := by decide +kernel
theorem dX6_advance_143 : decode cX6_advance 143 = .ok (.aload_n 0, 1) := by decide +kernel
theorem dX6_advance_144 : decode cX6_advance 144 = .ok (.getfield 22, 3) := by decide +kernel
theorem dX6_advance_147 : decode cX6_advance 147 = .ok (.iload_n 2, 1) := by decide +kernel
theorem dX6_advance_148 : decode cX6_advance 148 = .ok (.if_icmp .ne 8, 3) := by decide +kernel
theorem dX6_advance_151 : decode cX6_advance 151 = .ok (.aload_n 0, 1) := by decide +kernel
theorem dX6_advance_152 : decode cX6_advance 152 = .ok (.iconst 4, 1) := by decide +kernel
theorem dX6_advance_153 : decode cX6_advance 153 = .ok (.putfield 18, 3) := by decide +kernel
theorem dX6_advance_156 : decode cX6_advance 156 = .ok (.return_, 1) := by decide +kernel
theorem dX6_endOfRun_0 : decode cX6_endOfRun 0 = .ok (.iload_n 1, 1) := by decide +kernel
theorem dX6_endOfRun_1 : decode cX6_endOfRun 1 = .ok (.istore_n 3, 1) := by decide +kernel
theorem dX6_endOfRun_2 : decode cX6_endOfRun 2 = .ok (.iload_n 3, 1) := by decide +kernel
theorem dX6_endOfRun_3 : decode cX6_endOfRun 3 = .ok (.aload_n 0, 1) := by decide +kernel
theorem dX6_endOfRun_4 : decode cX6_endOfRun 4 = .ok (.getfield 12, 3) := by decide +kernel
theorem dX6_endOfRun_7 : decode cX6_endOfRun 7 = .ok (.getfield 103, 3) := by decide +kernel
theorem dX6_endOfRun_10 : decode cX6_endOfRun 10 = .ok (.if_icmp .ge 25, 3) := by decide +kernel
theorem dX6_endOfRun_13 : decode cX6_endOfRun 13 = .ok (.aload_n 0, 1) := by decide +kernel
theorem dX6_endOfRun_14 : decode cX6_endOfRun 14 = .ok (.getfield 12, 3) := by decide +kernel
theorem dX6_endOfRun_17 : decode cX6_endOfRun 17 = .ok (.getfield 87, 3) := by decide +kernel
theorem dX6_endOfRun_20 : decode cX6_endOfRun 20 = .ok (.iload_n 3, 1) := by decide +kernel
theorem dX6_endOfRun_21 : decode cX6_endOfRun 21 = .ok (.baload, 1) := by decide +kernel
theorem dX6_endOfRun_22 : decode cX6_endOfRun 22 = .ok (.invokestatic 105, 3) := by decide +kernel
theorem dX6_endOfRun_25 : decode cX6_endOfRun 25 = .ok (.iload_n 2, 1) := by decide +kernel
theorem dX6_endOfRun_26 : decode cX6_endOfRun 26 = .ok (.if_icmp .ne 9, 3) := by decide +kernel
theorem dX6_endOfRun_29 : decode cX6_endOfRun 29 = .ok (.iinc 3 1, 3) := by decide +kernel
theorem dX6_endOfRun_32 : decode cX6_endOfRun 32 = .ok (.goto (-30), 3) := by decide +kernel
theorem dX6_endOfRun_35 : decode cX6_endOfRun 35 = .ok (.iload_n 3, 1) := by decide +kernel
theorem dX6_endOfRun_36 : decode cX6_endOfRun 36 = .ok (.ireturn, 1) := by decide +kernel
theorem dX6_kindOf_0 : decode cX6_kindOf 0 = .ok (.iload_n 0, 1) := by decide +kernel
theorem dX6_kindOf_1 : decode cX6_kindOf 1 = .ok (.bipush 97, 2) := by decide +kernel
theorem dX6_kindOf_3 : decode cX6_kindOf 3 = .ok (.if_icmp .lt 11, 3) := by decide +kernel
theorem dX6_kindOf_6 : decode cX6_kindOf 6 = .ok (.iload_n 0, 1) := by decide +kernel
theorem dX6_kindOf_7 : decode cX6_kindOf 7 = .ok (.bipush 122, 2) := by decide +kernel
theorem dX6_kindOf_9 : decode cX6_kindOf 9 = .ok (.if_icmp .gt 5, 3) := by decide +kernel
theorem dX6_kindOf_12 : decode cX6_kindOf 12 = .ok (.iconst 1, 1) := by decide +kernel
theorem dX6_kindOf_13 : decode cX6_kindOf 13 = .ok (.ireturn, 1) := by decide +kernel
theorem dX6_kindOf_14 : decode cX6_kindOf 14 = .ok (.iload_n 0, 1) := by decide +kernel
theorem dX6_kindOf_15 : decode cX6_kindOf 15 = .ok (.bipush 48, 2) := by decide +kernel
theorem dX6_kindOf_17 : decode cX6_kindOf 17 = .ok (.if_icmp .lt 11, 3) := by decide +kernel
theorem dX6_kindOf_20 : decode cX6_kindOf 20 = .ok (.iload_n 0, 1) := by decide +kernel
theorem dX6_kindOf_21 : decode cX6_kindOf 21 = .ok (.bipush 57, 2) := by decide +kernel
theorem dX6_kindOf_23 : decode cX6_kindOf 23 = .ok (.if_icmp .gt 5, 3) := by decide +kernel
theorem dX6_kindOf_26 : decode cX6_kindOf 26 = .ok (.iconst 2, 1) := by decide +kernel
theorem dX6_kindOf_27 : decode cX6_kindOf 27 = .ok (.ireturn, 1) := by decide +kernel
theorem dX6_kindOf_28 : decode cX6_kindOf 28 = .ok (.iload_n 0, 1) := by decide +kernel
theorem dX6_kindOf_29 : decode cX6_kindOf 29 = .ok (.bipush 32, 2) := by decide +kernel
theorem dX6_kindOf_31 : decode cX6_kindOf 31 = .ok (.if_icmp .eq 9, 3) := by decide +kernel
theorem dX6_kindOf_34 : decode cX6_kindOf 34 = .ok (.iload_n 0, 1) := by decide +kernel
theorem dX6_kindOf_35 : decode cX6_kindOf 35 = .ok (.bipush 10, 2) := by decide +kernel
theorem dX6_kindOf_37 : decode cX6_kindOf 37 = .ok (.if_icmp .ne 5, 3) := by decide +kernel
theorem dX6_kindOf_40 : decode cX6_kindOf 40 = .ok (.iconst 5, 1) := by decide +kernel
theorem dX6_kindOf_41 : decode cX6_kindOf 41 = .ok (.ireturn, 1) := by decide +kernel
theorem dX6_kindOf_42 : decode cX6_kindOf 42 = .ok (.iload_n 0, 1) := by decide +kernel
theorem dX6_kindOf_43 : decode cX6_kindOf 43 = .ok (.bipush 59, 2) := by decide +kernel
theorem dX6_kindOf_45 : decode cX6_kindOf 45 = .ok (.if_icmp .ne 7, 3) := by decide +kernel
theorem dX6_kindOf_48 : decode cX6_kindOf 48 = .ok (.iconst 3, 1) := by decide +kernel
theorem dX6_kindOf_49 : decode cX6_kindOf 49 = .ok (.goto 4, 3) := by decide +kernel
theorem dX6_kindOf_52 : decode cX6_kindOf 52 = .ok (.iconst 4, 1) := by decide +kernel
theorem dX6_kindOf_53 : decode cX6_kindOf 53 = .ok (.ireturn, 1) := by decide +kernel
theorem dJ9_max_7cf53_0 : decode cJ9_max_7cf53 0 = .ok (.iload_n 0, 1) := by decide +kernel
theorem dJ9_max_7cf53_1 : decode cJ9_max_7cf53 1 = .ok (.iload_n 1, 1) := by decide +kernel
theorem dJ9_max_7cf53_2 : decode cJ9_max_7cf53 2 = .ok (.if_icmp .lt 7, 3) := by decide +kernel
theorem dJ9_max_7cf53_5 : decode cJ9_max_7cf53 5 = .ok (.iload_n 0, 1) := by decide +kernel
theorem dJ9_max_7cf53_6 : decode cJ9_max_7cf53 6 = .ok (.goto 4, 3) := by decide +kernel
theorem dJ9_max_7cf53_9 : decode cJ9_max_7cf53 9 = .ok (.iload_n 1, 1) := by decide +kernel
theorem dJ9_max_7cf53_10 : decode cJ9_max_7cf53 10 = .ok (.ireturn, 1) := by decide +kernel
theorem dJ9_min_7cf53_0 : decode cJ9_min_7cf53 0 = .ok (.iload_n 0, 1) := by decide +kernel
theorem dJ9_min_7cf53_1 : decode cJ9_min_7cf53 1 = .ok (.iload_n 1, 1) := by decide +kernel
theorem dJ9_min_7cf53_2 : decode cJ9_min_7cf53 2 = .ok (.if_icmp .gt 7, 3) := by decide +kernel
theorem dJ9_min_7cf53_5 : decode cJ9_min_7cf53 5 = .ok (.iload_n 0, 1) := by decide +kernel
theorem dJ9_min_7cf53_6 : decode cJ9_min_7cf53 6 = .ok (.goto 4, 3) := by decide +kernel
theorem dJ9_min_7cf53_9 : decode cJ9_min_7cf53 9 = .ok (.iload_n 1, 1) := by decide +kernel
theorem dJ9_min_7cf53_10 : decode cJ9_min_7cf53 10 = .ok (.ireturn, 1) := by decide +kernel
theorem dJ0_length_8abf5_0 : decode cJ0_length_8abf5 0 = .ok (.aload_n 0, 1) := by decide +kernel
theorem dJ0_length_8abf5_1 : decode cJ0_length_8abf5 1 = .ok (.getfield 9, 3) := by decide +kernel
theorem dJ0_length_8abf5_4 : decode cJ0_length_8abf5 4 = .ok (.arraylength, 1) := by decide +kernel
theorem dJ0_length_8abf5_5 : decode cJ0_length_8abf5 5 = .ok (.aload_n 0, 1) := by decide +kernel
theorem dJ0_length_8abf5_6 : decode cJ0_length_8abf5 6 = .ok (.invokevirtual 335, 3) := by decide +kernel
theorem dJ0_length_8abf5_9 : decode cJ0_length_8abf5 9 = .ok (.ishr, 1) := by decide +kernel
theorem dJ0_length_8abf5_10 : decode cJ0_length_8abf5 10 = .ok (.ireturn, 1) := by decide +kernel
theorem dJ0_charAt_5068e_0 : decode cJ0_charAt_5068e 0 = .ok (.aload_n 0, 1) := by decide +kernel
theorem dJ0_charAt_5068e_1 : decode cJ0_charAt_5068e 1 = .ok (.invokevirtual 492, 3) := by decide +kernel
theorem dJ0_charAt_5068e_4 : decode cJ0_charAt_5068e 4 = .ok (.ifCond .eq 12, 3) := by decide +kernel
theorem dJ0_charAt_5068e_7 : decode cJ0_charAt_5068e 7 = .ok (.aload_n 0, 1) := by decide +kernel
theorem dJ0_charAt_5068e_8 : decode cJ0_charAt_5068e 8 = .ok (.getfield 9, 3) := by decide +kernel
theorem dJ0_charAt_5068e_11 : decode cJ0_charAt_5068e 11 = .ok (.iload_n 1, 1) := by decide +kernel
theorem dJ0_charAt_5068e_12 : decode cJ0_charAt_5068e 12 = .ok (.invokestatic 495, 3) := by decide +kernel
theorem dJ0_charAt_5068e_15 : decode cJ0_charAt_5068e 15 = .ok (.ireturn, 1) := by decide +kernel
theorem dJ0_charAt_5068e_16 : decode cJ0_charAt_5068e 16 = .ok (.aload_n 0, 1) := by decide +kernel
theorem dJ0_charAt_5068e_17 : decode cJ0_charAt_5068e 17 = .ok (.getfield 9, 3) := by decide +kernel
theorem dJ0_charAt_5068e_20 : decode cJ0_charAt_5068e 20 = .ok (.iload_n 1, 1) := by decide +kernel
theorem dJ0_charAt_5068e_21 : decode cJ0_charAt_5068e 21 = .ok (.invokestatic 498, 3) := by decide +kernel
theorem dJ0_charAt_5068e_24 : decode cJ0_charAt_5068e 24 = .ok (.ireturn, 1) := by decide +kernel
theorem dJ0_coder_7d493_0 : decode cJ0_coder_7d493 0 = .ok (.getstatic 38, 3) := by decide +kernel
theorem dJ0_coder_7d493_3 : decode cJ0_coder_7d493 3 = .ok (.ifCond .eq 10, 3) := by decide +kernel
theorem dJ0_coder_7d493_6 : decode cJ0_coder_7d493 6 = .ok (.aload_n 0, 1) := by decide +kernel
theorem dJ0_coder_7d493_7 : decode cJ0_coder_7d493 7 = .ok (.getfield 15, 3) := by decide +kernel
theorem dJ0_coder_7d493_10 : decode cJ0_coder_7d493 10 = .ok (.goto 4, 3) := by decide +kernel
theorem dJ0_coder_7d493_13 : decode cJ0_coder_7d493 13 = .ok (.iconst 1, 1) := by decide +kernel
theorem dJ0_coder_7d493_14 : decode cJ0_coder_7d493 14 = .ok (.ireturn, 1) := by decide +kernel
theorem dJ0_isLatin1_aae02_0 : decode cJ0_isLatin1_aae02 0 = .ok (.getstatic 38, 3) := by decide +kernel
theorem dJ0_isLatin1_aae02_3 : decode cJ0_isLatin1_aae02 3 = .ok (.ifCond .eq 14, 3) := by decide +kernel
theorem dJ0_isLatin1_aae02_6 : decode cJ0_isLatin1_aae02 6 = .ok (.aload_n 0, 1) := by decide +kernel
theorem dJ0_isLatin1_aae02_7 : decode cJ0_isLatin1_aae02 7 = .ok (.getfield 15, 3) := by decide +kernel
theorem dJ0_isLatin1_aae02_10 : decode cJ0_isLatin1_aae02 10 = .ok (.ifCond .ne 7, 3) := by decide +kernel
theorem dJ0_isLatin1_aae02_13 : decode cJ0_isLatin1_aae02 13 = .ok (.iconst 1, 1) := by decide +kernel
theorem dJ0_isLatin1_aae02_14 : decode cJ0_isLatin1_aae02 14 = .ok (.goto 4, 3) := by decide +kernel
theorem dJ0_isLatin1_aae02_17 : decode cJ0_isLatin1_aae02 17 = .ok (.iconst 0, 1) := by decide +kernel
theorem dJ0_isLatin1_aae02_18 : decode cJ0_isLatin1_aae02 18 = .ok (.ireturn, 1) := by decide +kernel
theorem dJ0_checkIndex_df160_0 : decode cJ0_checkIndex_df160 0 = .ok (.iload_n 0, 1) := by decide +kernel
theorem dJ0_checkIndex_df160_1 : decode cJ0_checkIndex_df160 1 = .ok (.iload_n 1, 1) := by decide +kernel
theorem dJ0_checkIndex_df160_2 : decode cJ0_checkIndex_df160 2 = .ok (.getstatic 1053, 3) := by decide +kernel
theorem dJ0_checkIndex_df160_5 : decode cJ0_checkIndex_df160 5 = .ok (.invokestatic 1059, 3) := by decide +kernel
theorem dJ0_checkIndex_df160_8 : decode cJ0_checkIndex_df160 8 = .ok (.pop, 1) := by decide +kernel
theorem dJ0_checkIndex_df160_9 : decode cJ0_checkIndex_df160 9 = .ok (.return_, 1) := by decide +kernel
theorem dJ1_charAt_3b067_0 : decode cJ1_charAt_3b067 0 = .ok (.iload_n 1, 1) := by decide +kernel
theorem dJ1_charAt_3b067_1 : decode cJ1_charAt_3b067 1 = .ok (.aload_n 0, 1) := by decide +kernel
theorem dJ1_charAt_3b067_2 : decode cJ1_charAt_3b067 2 = .ok (.arraylength, 1) := by decide +kernel
theorem dJ1_charAt_3b067_3 : decode cJ1_charAt_3b067 3 = .ok (.invokestatic 9, 3) := by decide +kernel
theorem dJ1_charAt_3b067_6 : decode cJ1_charAt_3b067 6 = .ok (.aload_n 0, 1) := by decide +kernel
theorem dJ1_charAt_3b067_7 : decode cJ1_charAt_3b067 7 = .ok (.iload_n 1, 1) := by decide +kernel
theorem dJ1_charAt_3b067_8 : decode cJ1_charAt_3b067 8 = .ok (.baload, 1) := by decide +kernel
theorem dJ1_charAt_3b067_9 : decode cJ1_charAt_3b067 9 = .ok (.sipush 255, 3) := by decide +kernel
theorem dJ1_charAt_3b067_12 : decode cJ1_charAt_3b067 12 = .ok (.iand, 1) := by decide +kernel
theorem dJ1_charAt_3b067_13 : decode cJ1_charAt_3b067 13 = .ok (.i2c, 1) := by decide +kernel
theorem dJ1_charAt_3b067_14 : decode cJ1_charAt_3b067 14 = .ok (.ireturn, 1) := by decide +kernel
theorem dJ2_getChar_3b067_0 : decode cJ2_getChar_3b067 0 = .ok (.getstatic 44, 3) := by decide +kernel
theorem dJ2_getChar_3b067_3 : decode cJ2_getChar_3b067 3 = .ok (.ifCond .ne 25, 3) := by decide +kernel
theorem dJ2_getChar_3b067_6 : decode cJ2_getChar_3b067 6 = .ok (.iload_n 1, 1) := by decide +kernel
theorem dJ2_getChar_3b067_7 : decode cJ2_getChar_3b067 7 = .ok (.ifCond .lt 11, 3) := by decide +kernel
theorem dJ2_getChar_3b067_10 : decode cJ2_getChar_3b067 10 = .ok (.iload_n 1, 1) := by decide +kernel
theorem dJ2_getChar_3b067_11 : decode cJ2_getChar_3b067 11 = .ok (.aload_n 0, 1) := by decide +kernel
theorem dJ2_getChar_3b067_12 : decode cJ2_getChar_3b067 12 = .ok (.invokestatic 48, 3) := by decide +kernel
theorem dJ2_getChar_3b067_15 : decode cJ2_getChar_3b067 15 = .ok (.if_icmp .lt 13, 3) := by decide +kernel
theorem dJ2_getChar_3b067_18 : decode cJ2_getChar_3b067 18 = .ok (.new 52, 3) := by decide +kernel
theorem dJ2_getChar_3b067_21 : decode cJ2_getChar_3b067 21 = .ok (.dup, 1) := by decide +kernel
theorem dJ2_getChar_3b067_22 : decode cJ2_getChar_3b067 22 = .ok (.ldc 54, 2) := by decide +kernel
theorem dJ2_getChar_3b067_24 : decode cJ2_getChar_3b067 24 = .ok (.invokespecial 56, 3) := by decide +kernel
theorem dJ2_getChar_3b067_27 : decode cJ2_getChar_3b067 27 = .ok (.athrow, 1) := by decide +kernel
theorem dJ2_getChar_3b067_28 : decode cJ2_getChar_3b067 28 = .ok (.iload_n 1, 1) := by decide +kernel
theorem dJ2_getChar_3b067_29 : decode cJ2_getChar_3b067 29 = .ok (.iconst 1, 1) := by decide +kernel
theorem dJ2_getChar_3b067_30 : decode cJ2_getChar_3b067 30 = .ok (.ishl, 1) := by decide +kernel
theorem dJ2_getChar_3b067_31 : decode cJ2_getChar_3b067 31 = .ok (.istore_n 1, 1) := by decide +kernel
theorem dJ2_getChar_3b067_32 : decode cJ2_getChar_3b067 32 = .ok (.aload_n 0, 1) := by decide +kernel
theorem dJ2_getChar_3b067_33 : decode cJ2_getChar_3b067 33 = .ok (.iload_n 1, 1) := by decide +kernel
theorem dJ2_getChar_3b067_34 : decode cJ2_getChar_3b067 34 = .ok (.iinc 1 1, 3) := by decide +kernel
theorem dJ2_getChar_3b067_37 : decode cJ2_getChar_3b067 37 = .ok (.baload, 1) := by decide +kernel
theorem dJ2_getChar_3b067_38 : decode cJ2_getChar_3b067 38 = .ok (.sipush 255, 3) := by decide +kernel
theorem dJ2_getChar_3b067_41 : decode cJ2_getChar_3b067 41 = .ok (.iand, 1) := by decide +kernel
theorem dJ2_getChar_3b067_42 : decode cJ2_getChar_3b067 42 = .ok (.getstatic 59, 3) := by decide +kernel
theorem dJ2_getChar_3b067_45 : decode cJ2_getChar_3b067 45 = .ok (.ishl, 1) := by decide +kernel
theorem dJ2_getChar_3b067_46 : decode cJ2_getChar_3b067 46 = .ok (.aload_n 0, 1) := by decide +kernel
theorem dJ2_getChar_3b067_47 : decode cJ2_getChar_3b067 47 = .ok (.iload_n 1, 1) := by decide +kernel
theorem dJ2_getChar_3b067_48 : decode cJ2_getChar_3b067 48 = .ok (.baload, 1) := by decide +kernel
theorem dJ2_getChar_3b067_49 : decode cJ2_getChar_3b067 49 = .ok (.sipush 255, 3) := by decide +kernel
theorem dJ2_getChar_3b067_52 : decode cJ2_getChar_3b067 52 = .ok (.iand, 1) := by decide +kernel
theorem dJ2_getChar_3b067_53 : decode cJ2_getChar_3b067 53 = .ok (.getstatic 63, 3) := by decide +kernel
theorem dJ2_getChar_3b067_56 : decode cJ2_getChar_3b067 56 = .ok (.ishl, 1) := by decide +kernel
theorem dJ2_getChar_3b067_57 : decode cJ2_getChar_3b067 57 = .ok (.ior, 1) := by decide +kernel
theorem dJ2_getChar_3b067_58 : decode cJ2_getChar_3b067 58 = .ok (.i2c, 1) := by decide +kernel
theorem dJ2_getChar_3b067_59 : decode cJ2_getChar_3b067 59 = .ok (.ireturn, 1) := by decide +kernel
theorem dJ2_length_9d52b_0 : decode cJ2_length_9d52b 0 = .ok (.aload_n 0, 1) := by decide +kernel
theorem dJ2_length_9d52b_1 : decode cJ2_length_9d52b 1 = .ok (.arraylength, 1) := by decide +kernel
theorem dJ2_length_9d52b_2 : decode cJ2_length_9d52b 2 = .ok (.iconst 1, 1) := by decide +kernel
theorem dJ2_length_9d52b_3 : decode cJ2_length_9d52b 3 = .ok (.ishr, 1) := by decide +kernel
theorem dJ2_length_9d52b_4 : decode cJ2_length_9d52b 4 = .ok (.ireturn, 1) := by decide +kernel
theorem dJ2_charAt_3b067_0 : decode cJ2_charAt_3b067 0 = .ok (.iload_n 1, 1) := by decide +kernel
theorem dJ2_charAt_3b067_1 : decode cJ2_charAt_3b067 1 = .ok (.aload_n 0, 1) := by decide +kernel
theorem dJ2_charAt_3b067_2 : decode cJ2_charAt_3b067 2 = .ok (.invokestatic 67, 3) := by decide +kernel
theorem dJ2_charAt_3b067_5 : decode cJ2_charAt_3b067 5 = .ok (.aload_n 0, 1) := by decide +kernel
theorem dJ2_charAt_3b067_6 : decode cJ2_charAt_3b067 6 = .ok (.iload_n 1, 1) := by decide +kernel
theorem dJ2_charAt_3b067_7 : decode cJ2_charAt_3b067 7 = .ok (.invokestatic 71, 3) := by decide +kernel
theorem dJ2_charAt_3b067_10 : decode cJ2_charAt_3b067 10 = .ok (.ireturn, 1) := by decide +kernel
theorem dJ2_checkIndex_2214a_0 : decode cJ2_checkIndex_2214a 0 = .ok (.iload_n 0, 1) := by decide +kernel
theorem dJ2_checkIndex_2214a_1 : decode cJ2_checkIndex_2214a 1 = .ok (.aload_n 1, 1) := by decide +kernel
theorem dJ2_checkIndex_2214a_2 : decode cJ2_checkIndex_2214a 2 = .ok (.invokestatic 48, 3) := by decide +kernel
theorem dJ2_checkIndex_2214a_5 : decode cJ2_checkIndex_2214a 5 = .ok (.invokestatic 414, 3) := by decide +kernel
theorem dJ2_checkIndex_2214a_8 : decode cJ2_checkIndex_2214a 8 = .ok (.return_, 1) := by decide +kernel
theorem dJ3_checkIndex_8e157_0 : decode cJ3_checkIndex_8e157 0 = .ok (.iload_n 0, 1) := by decide +kernel
theorem dJ3_checkIndex_8e157_1 : decode cJ3_checkIndex_8e157 1 = .ok (.ifCond .lt 8, 3) := by decide +kernel
theorem dJ3_checkIndex_8e157_4 : decode cJ3_checkIndex_8e157 4 = .ok (.iload_n 0, 1) := by decide +kernel
theorem dJ3_checkIndex_8e157_5 : decode cJ3_checkIndex_8e157 5 = .ok (.iload_n 1, 1) := by decide +kernel
theorem dJ3_checkIndex_8e157_6 : decode cJ3_checkIndex_8e157 6 = .ok (.if_icmp .lt 10, 3) := by decide +kernel
theorem dJ3_checkIndex_8e157_9 : decode cJ3_checkIndex_8e157 9 = .ok (.aload_n 2, 1) := by decide +kernel
theorem dJ3_checkIndex_8e157_10 : decode cJ3_checkIndex_8e157 10 = .ok (.iload_n 0, 1) := by decide +kernel
theorem dJ3_checkIndex_8e157_11 : decode cJ3_checkIndex_8e157 11 = .ok (.iload_n 1, 1) := by decide +kernel
theorem dJ3_checkIndex_8e157_12 : decode cJ3_checkIndex_8e157 12 = .ok (.invokestatic 95, 3) := by decide +kernel
theorem dJ3_checkIndex_8e157_15 : decode cJ3_checkIndex_8e157 15 = .ok (.athrow, 1) := by decide +kernel
theorem dJ3_checkIndex_8e157_16 : decode cJ3_checkIndex_8e157 16 = .ok (.iload_n 0, 1) := by decide +kernel
theorem dJ3_checkIndex_8e157_17 : decode cJ3_checkIndex_8e157 17 = .ok (.ireturn, 1) := by decide +kernel
