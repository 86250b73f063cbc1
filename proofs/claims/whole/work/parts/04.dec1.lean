theorem dX7_init_0 : decode cX7_init 0 = .ok (.aload_n 0, 1) := by decide +kernel
theorem dX7_init_1 : decode cX7_init 1 = .ok (.invokespecial 3, 3) := by decide +kernel
theorem dX7_init_4 : decode cX7_init 4 = .ok (.aload_n 0, 1) := by decide +kernel
theorem dX7_init_5 : decode cX7_init 5 = .ok (.new 9, 3) := by decide +kernel
theorem dX7_init_8 : decode cX7_init 8 = .ok (.dup, 1) := by decide +kernel
theorem dX7_init_9 : decode cX7_init 9 = .ok (.invokespecial 11, 3) := by decide +kernel
theorem dX7_init_12 : decode cX7_init 12 = .ok (.putfield 12, 3) := by decide +kernel
theorem dX7_init_15 : decode cX7_init 15 = .ok (.aload_n 0, 1) := by decide +kernel
theorem dX7_init_16 : decode cX7_init 16 = .ok (.aload_n 0, 1) := by decide +kernel
theorem dX7_init_17 : decode cX7_init 17 = .ok (.getfield 12, 3) := by decide +kernel
theorem dX7_init_20 : decode cX7_init 20 = .ok (.getfield 16, 3) := by decide +kernel
theorem dX7_init_23 : decode cX7_init 23 = .ok (.putfield 20, 3) := by decide +kernel
theorem dX7_init_26 : decode cX7_init 26 = .ok (.aload_n 0, 1) := by decide +kernel
theorem dX7_init_27 : decode cX7_init 27 = .ok (.new 21, 3) := by decide +kernel
theorem dX7_init_30 : decode cX7_init 30 = .ok (.dup, 1) := by decide +kernel
theorem dX7_init_31 : decode cX7_init 31 = .ok (.invokespecial 23, 3) := by decide +kernel
theorem dX7_init_34 : decode cX7_init 34 = .ok (.putfield 24, 3) := by decide +kernel
theorem dX7_init_37 : decode cX7_init 37 = .ok (.aload_n 0, 1) := by decide +kernel
theorem dX7_init_38 : decode cX7_init 38 = .ok (.aload_n 0, 1) := by decide +kernel
theorem dX7_init_39 : decode cX7_init 39 = .ok (.getfield 24, 3) := by decide +kernel
theorem dX7_init_42 : decode cX7_init 42 = .ok (.getfield 28, 3) := by decide +kernel
theorem dX7_init_45 : decode cX7_init 45 = .ok (.putfield 32, 3) := by decide +kernel
theorem dX7_init_48 : decode cX7_init 48 = .ok (.aload_n 0, 1) := by decide +kernel
theorem dX7_init_49 : decode cX7_init 49 = .ok (.new 33, 3) := by decide +kernel
theorem dX7_init_52 : decode cX7_init 52 = .ok (.dup, 1) := by decide +kernel
theorem dX7_init_53 : decode cX7_init 53 = .ok (.invokespecial 35, 3) := by decide +kernel
theorem dX7_init_56 : decode cX7_init 56 = .ok (.putfield 36, 3) := by decide +kernel
theorem dX7_init_59 : decode cX7_init 59 = .ok (.aload_n 0, 1) := by decide +kernel
theorem dX7_init_60 : decode cX7_init 60 = .ok (.new 40, 3) := by decide +kernel
theorem dX7_init_63 : decode cX7_init 63 = .ok (.dup, 1) := by decide +kernel
theorem dX7_init_64 : decode cX7_init 64 = .ok (.invokespecial 42, 3) := by decide +kernel
theorem dX7_init_67 : decode cX7_init 67 = .ok (.putfield 43, 3) := by decide +kernel
theorem dX7_init_70 : decode cX7_init 70 = .ok (.aload_n 0, 1) := by decide +kernel
theorem dX7_init_71 : decode cX7_init 71 = .ok (.new 21, 3) := by decide +kernel
theorem dX7_init_74 : decode cX7_init 74 = .ok (.dup, 1) := by decide +kernel
theorem dX7_init_75 : decode cX7_init 75 = .ok (.invokespecial 23, 3) := by decide +kernel
theorem dX7_init_78 : decode cX7_init 78 = .ok (.putfield 47, 3) := by decide +kernel
theorem dX7_init_81 : decode cX7_init 81 = .ok (.aload_n 0, 1) := by decide +kernel
theorem dX7_init_82 : decode cX7_init 82 = .ok (.aload_n 0, 1) := by decide +kernel
theorem dX7_init_83 : decode cX7_init 83 = .ok (.getfield 47, 3) := by decide +kernel
theorem dX7_init_86 : decode cX7_init 86 = .ok (.getfield 28, 3) := by decide +kernel
theorem dX7_init_89 : decode cX7_init 89 = .ok (.putfield 50, 3) := by decide +kernel
theorem dX7_init_92 : decode cX7_init 92 = .ok (.aload_n 0, 1) := by decide +kernel
theorem dX7_init_93 : decode cX7_init 93 = .ok (.new 53, 3) := by decide +kernel
theorem dX7_init_96 : decode cX7_init 96 = .ok (.dup, 1) := by decide +kernel
theorem dX7_init_97 : decode cX7_init 97 = .ok (.invokespecial 55, 3) := by decide +kernel
theorem dX7_init_100 : decode cX7_init 100 = .ok (.putfield 56, 3) := by decide +kernel
theorem dX7_init_103 : decode cX7_init 103 = .ok (.aload_n 0, 1) := by decide +kernel
theorem dX7_init_104 : decode cX7_init 104 = .ok (.iconst 1, 1) := by decide +kernel
theorem dX7_init_105 : decode cX7_init 105 = .ok (.putfield 60, 3) := by decide +kernel
theorem dX7_init_108 : decode cX7_init 108 = .ok (.return_, 1) := by decide +kernel
theorem dX7_feed_0 : decode cX7_feed 0 = .ok (.aload_n 0, 1) := by decide +kernel
theorem dX7_feed_1 : decode cX7_feed 1 = .ok (.getfield 20, 3) := by decide +kernel
theorem dX7_feed_4 : decode cX7_feed 4 = .ok (.bipush 20, 2) := by decide +kernel
theorem dX7_feed_6 : decode cX7_feed 6 = .ok (.invokevirtual 64, 3) := by decide +kernel
theorem dX7_feed_9 : decode cX7_feed 9 = .ok (.ifCond .ne 5, 3) := by decide +kernel
theorem dX7_feed_12 : decode cX7_feed 12 = .ok (.iconst (-1), 1) := by decide +kernel
theorem dX7_feed_13 : decode cX7_feed 13 = .ok (.ireturn, 1) := by decide +kernel
theorem dX7_feed_14 : decode cX7_feed 14 = .ok (.aload_n 0, 1) := by decide +kernel
theorem dX7_feed_15 : decode cX7_feed 15 = .ok (.getfield 20, 3) := by decide +kernel
theorem dX7_feed_18 : decode cX7_feed 18 = .ok (.iload_n 1, 1) := by decide +kernel
theorem dX7_feed_19 : decode cX7_feed 19 = .ok (.invokevirtual 70, 3) := by decide +kernel
theorem dX7_feed_22 : decode cX7_feed 22 = .ok (.aload_n 0, 1) := by decide +kernel
theorem dX7_feed_23 : decode cX7_feed 23 = .ok (.getfield 20, 3) := by decide +kernel
theorem dX7_feed_26 : decode cX7_feed 26 = .ok (.iload_n 2, 1) := by decide +kernel
theorem dX7_feed_27 : decode cX7_feed 27 = .ok (.invokevirtual 70, 3) := by decide +kernel
theorem dX7_feed_30 : decode cX7_feed 30 = .ok (.aload_n 0, 1) := by decide +kernel
theorem dX7_feed_31 : decode cX7_feed 31 = .ok (.getfield 20, 3) := by decide +kernel
theorem dX7_feed_34 : decode cX7_feed 34 = .ok (.iload_n 3, 1) := by decide +kernel
theorem dX7_feed_35 : decode cX7_feed 35 = .ok (.invokevirtual 70, 3) := by decide +kernel
theorem dX7_feed_38 : decode cX7_feed 38 = .ok (.aload_n 0, 1) := by decide +kernel
theorem dX7_feed_39 : decode cX7_feed 39 = .ok (.getfield 20, 3) := by decide +kernel
theorem dX7_feed_42 : decode cX7_feed 42 = .ok (.iload 4, 2) := by decide +kernel
theorem dX7_feed_44 : decode cX7_feed 44 = .ok (.invokevirtual 70, 3) := by decide +kernel
theorem dX7_feed_47 : decode cX7_feed 47 = .ok (.aload_n 0, 1) := by decide +kernel
theorem dX7_feed_48 : decode cX7_feed 48 = .ok (.getfield 20, 3) := by decide +kernel
theorem dX7_feed_51 : decode cX7_feed 51 = .ok (.iload 5, 2) := by decide +kernel
theorem dX7_feed_53 : decode cX7_feed 53 = .ok (.invokevirtual 70, 3) := by decide +kernel
theorem dX7_feed_56 : decode cX7_feed 56 = .ok (.aload_n 0, 1) := by decide +kernel
theorem dX7_feed_57 : decode cX7_feed 57 = .ok (.getfield 20, 3) := by decide +kernel
theorem dX7_feed_60 : decode cX7_feed 60 = .ok (.getfield 74, 3) := by decide +kernel
theorem dX7_feed_63 : decode cX7_feed 63 = .ok (.ireturn, 1) := by decide +kernel
theorem dX7_back_0 : decode cX7_back 0 = .ok (.iload_n 1, 1) := by decide +kernel
theorem dX7_back_1 : decode cX7_back 1 = .ok (.ifCond .lt 14, 3) := by decide +kernel
theorem dX7_back_4 : decode cX7_back 4 = .ok (.iload_n 1, 1) := by decide +kernel
theorem dX7_back_5 : decode cX7_back 5 = .ok (.aload_n 0, 1) := by decide +kernel
theorem dX7_back_6 : decode cX7_back 6 = .ok (.getfield 20, 3) := by decide +kernel
theorem dX7_back_9 : decode cX7_back 9 = .ok (.getfield 74, 3) := by decide +kernel
theorem dX7_back_12 : decode cX7_back 12 = .ok (.if_icmp .le 5, 3) := by decide +kernel
theorem dX7_back_15 : decode cX7_back 15 = .ok (.iconst (-1), 1) := by decide +kernel
theorem dX7_back_16 : decode cX7_back 16 = .ok (.ireturn, 1) := by decide +kernel
theorem dX7_back_17 : decode cX7_back 17 = .ok (.aload_n 0, 1) := by decide +kernel
theorem dX7_back_18 : decode cX7_back 18 = .ok (.getfield 20, 3) := by decide +kernel
theorem dX7_back_21 : decode cX7_back 21 = .ok (.dup, 1) := by decide +kernel
theorem dX7_back_22 : decode cX7_back 22 = .ok (.getfield 74, 3) := by decide +kernel
theorem dX7_back_25 : decode cX7_back 25 = .ok (.iload_n 1, 1) := by decide +kernel
theorem dX7_back_26 : decode cX7_back 26 = .ok (.isub, 1) := by decide +kernel
theorem dX7_back_27 : decode cX7_back 27 = .ok (.putfield 74, 3) := by decide +kernel
theorem dX7_back_30 : decode cX7_back 30 = .ok (.aload_n 0, 1) := by decide +kernel
theorem dX7_back_31 : decode cX7_back 31 = .ok (.getfield 20, 3) := by decide +kernel
theorem dX7_back_34 : decode cX7_back 34 = .ok (.getfield 74, 3) := by decide +kernel
theorem dX7_back_37 : decode cX7_back 37 = .ok (.ireturn, 1) := by decide +kernel
theorem dX7_text_0 : decode cX7_text 0 = .ok (.aload_n 0, 1) := by decide +kernel
theorem dX7_text_1 : decode cX7_text 1 = .ok (.getfield 12, 3) := by decide +kernel
theorem dX7_text_4 : decode cX7_text 4 = .ok (.aload_n 0, 1) := by decide +kernel
theorem dX7_text_5 : decode cX7_text 5 = .ok (.getfield 50, 3) := by decide +kernel
theorem dX7_text_8 : decode cX7_text 8 = .ok (.invokevirtual 78, 3) := by decide +kernel
theorem dX7_text_11 : decode cX7_text 11 = .ok (.istore_n 1, 1) := by decide +kernel
theorem dX7_text_12 : decode cX7_text 12 = .ok (.aload_n 0, 1) := by decide +kernel
theorem dX7_text_13 : decode cX7_text 13 = .ok (.getfield 20, 3) := by decide +kernel
theorem dX7_text_16 : decode cX7_text 16 = .ok (.iconst 0, 1) := by decide +kernel
theorem dX7_text_17 : decode cX7_text 17 = .ok (.putfield 74, 3) := by decide +kernel
theorem dX7_text_20 : decode cX7_text 20 = .ok (.iload_n 1, 1) := by decide +kernel
theorem dX7_text_21 : decode cX7_text 21 = .ok (.ifCond .lt 8, 3) := by decide +kernel
theorem dX7_text_24 : decode cX7_text 24 = .ok (.bipush (-4), 2) := by decide +kernel
theorem dX7_text_26 : decode cX7_text 26 = .ok (.iload_n 1, 1) := by decide +kernel
theorem dX7_text_27 : decode cX7_text 27 = .ok (.isub, 1) := by decide +kernel
theorem dX7_text_28 : decode cX7_text 28 = .ok (.ireturn, 1) := by decide +kernel
theorem dX7_text_29 : decode cX7_text 29 = .ok (.aload_n 0, 1) := by decide +kernel
theorem dX7_text_30 : decode cX7_text 30 = .ok (.getfield 32, 3) := by decide +kernel
theorem dX7_text_33 : decode cX7_text 33 = .ok (.aload_n 0, 1) := by decide +kernel
theorem dX7_text_34 : decode cX7_text 34 = .ok (.getfield 50, 3) := by decide +kernel
theorem dX7_text_37 : decode cX7_text 37 = .ok (.invokevirtual 82, 3) := by decide +kernel
theorem dX7_text_40 : decode cX7_text 40 = .ok (.aload_n 0, 1) := by decide +kernel
theorem dX7_text_41 : decode cX7_text 41 = .ok (.getfield 36, 3) := by decide +kernel
theorem dX7_text_44 : decode cX7_text 44 = .ok (.iconst 0, 1) := by decide +kernel
theorem dX7_text_45 : decode cX7_text 45 = .ok (.putfield 88, 3) := by decide +kernel
theorem dX7_text_48 : decode cX7_text 48 = .ok (.aload_n 0, 1) := by decide +kernel
theorem dX7_text_49 : decode cX7_text 49 = .ok (.getfield 43, 3) := by decide +kernel
theorem dX7_text_52 : decode cX7_text 52 = .ok (.iconst 0, 1) := by decide +kernel
theorem dX7_text_53 : decode cX7_text 53 = .ok (.putfield 91, 3) := by decide +kernel
theorem dX7_text_56 : decode cX7_text 56 = .ok (.aload_n 0, 1) := by decide +kernel
theorem dX7_text_57 : decode cX7_text 57 = .ok (.iconst 1, 1) := by decide +kernel
theorem dX7_text_58 : decode cX7_text 58 = .ok (.putfield 60, 3) := by decide +kernel
theorem dX7_text_61 : decode cX7_text 61 = .ok (.aload_n 0, 1) := by decide +kernel
theorem dX7_text_62 : decode cX7_text 62 = .ok (.getfield 32, 3) := by decide +kernel
theorem dX7_text_65 : decode cX7_text 65 = .ok (.getfield 94, 3) := by decide +kernel
theorem dX7_text_68 : decode cX7_text 68 = .ok (.ireturn, 1) := by decide +kernel
theorem dX7_join_0 : decode cX7_join 0 = .ok (.aload_n 0, 1) := by decide +kernel
theorem dX7_join_1 : decode cX7_join 1 = .ok (.getfield 32, 3) := by decide +kernel
theorem dX7_join_4 : decode cX7_join 4 = .ok (.getfield 94, 3) := by decide +kernel
theorem dX7_join_7 : decode cX7_join 7 = .ok (.bipush 8, 2) := by decide +kernel
theorem dX7_join_9 : decode cX7_join 9 = .ok (.if_icmp .lt 5, 3) := by decide +kernel
theorem dX7_join_12 : decode cX7_join 12 = .ok (.iconst (-1), 1) := by decide +kernel
theorem dX7_join_13 : decode cX7_join 13 = .ok (.ireturn, 1) := by decide +kernel
theorem dX7_join_14 : decode cX7_join 14 = .ok (.aload_n 0, 1) := by decide +kernel
theorem dX7_join_15 : decode cX7_join 15 = .ok (.invokevirtual 97, 3) := by decide +kernel
theorem dX7_join_18 : decode cX7_join 18 = .ok (.aload_n 0, 1) := by decide +kernel
theorem dX7_join_19 : decode cX7_join 19 = .ok (.getfield 32, 3) := by decide +kernel
theorem dX7_join_22 : decode cX7_join 22 = .ok (.invokevirtual 100, 3) := by decide +kernel
theorem dX7_join_25 : decode cX7_join 25 = .ok (.ireturn, 1) := by decide +kernel
theorem dX7_leave_0 : decode cX7_leave 0 = .ok (.aload_n 0, 1) := by decide +kernel
theorem dX7_leave_1 : decode cX7_leave 1 = .ok (.getfield 32, 3) := by decide +kernel
theorem dX7_leave_4 : decode cX7_leave 4 = .ok (.iload_n 1, 1) := by decide +kernel
theorem dX7_leave_5 : decode cX7_leave 5 = .ok (.invokevirtual 104, 3) := by decide +kernel
theorem dX7_leave_8 : decode cX7_leave 8 = .ok (.ifCond .ne 5, 3) := by decide +kernel
theorem dX7_leave_11 : decode cX7_leave 11 = .ok (.iconst 0, 1) := by decide +kernel
theorem dX7_leave_12 : decode cX7_leave 12 = .ok (.ireturn, 1) := by decide +kernel
theorem dX7_leave_13 : decode cX7_leave 13 = .ok (.aload_n 0, 1) := by decide +kernel
theorem dX7_leave_14 : decode cX7_leave 14 = .ok (.invokevirtual 97, 3) := by decide +kernel
theorem dX7_leave_17 : decode cX7_leave 17 = .ok (.aload_n 0, 1) := by decide +kernel
theorem dX7_leave_18 : decode cX7_leave 18 = .ok (.getfield 32, 3) := by decide +kernel
theorem dX7_leave_21 : decode cX7_leave 21 = .ok (.iload_n 1, 1) := by decide +kernel
theorem dX7_leave_22 : decode cX7_leave 22 = .ok (.invokevirtual 107, 3) := by decide +kernel
theorem dX7_leave_25 : decode cX7_leave 25 = .ok (.iconst 1, 1) := by decide +kernel
theorem dX7_leave_26 : decode cX7_leave 26 = .ok (.ireturn, 1) := by decide +kernel
theorem dX7_value_0 : decode cX7_value 0 = .ok (.aload_n 0, 1) := by decide +kernel
theorem dX7_value_1 : decode cX7_value 1 = .ok (.getfield 32, 3) := by decide +kernel
theorem dX7_value_4 : decode cX7_value 4 = .ok (.iload_n 1, 1) := by decide +kernel
theorem dX7_value_5 : decode cX7_value 5 = .ok (.invokevirtual 104, 3) := by decide +kernel
theorem dX7_value_8 : decode cX7_value 8 = .ok (.ifCond .eq 24, 3) := by decide +kernel
theorem dX7_value_11 : decode cX7_value 11 = .ok (.iload_n 2, 1) := by decide +kernel
theorem dX7_value_12 : decode cX7_value 12 = .ok (.invokestatic 110, 3) := by decide +kernel
theorem dX7_value_15 : decode cX7_value 15 = .ok (.ifCond .eq 17, 3) := by decide +kernel
theorem dX7_value_18 : decode cX7_value 18 = .ok (.aload_n 0, 1) := by decide +kernel
theorem dX7_value_19 : decode cX7_value 19 = .ok (.getfield 32, 3) := by decide +kernel
theorem dX7_value_22 : decode cX7_value 22 = .ok (.getfield 113, 3) := by decide +kernel
theorem dX7_value_25 : decode cX7_value 25 = .ok (.iload_n 1, 1) := by decide +kernel
theorem dX7_value_26 : decode cX7_value 26 = .ok (.iaload, 1) := by decide +kernel
theorem dX7_value_27 : decode cX7_value 27 = .ok (.bipush 8, 2) := by decide +kernel
theorem dX7_value_29 : decode cX7_value 29 = .ok (.if_icmp .lt 5, 3) := by decide +kernel
theorem dX7_value_32 : decode cX7_value 32 = .ok (.iconst (-1), 1) := by decide +kernel
theorem dX7_value_33 : decode cX7_value 33 = .ok (.ireturn, 1) := by decide +kernel
theorem dX7_value_34 : decode cX7_value 34 = .ok (.aload_n 0, 1) := by decide +kernel
theorem dX7_value_35 : decode cX7_value 35 = .ok (.invokevirtual 97, 3) := by decide +kernel
theorem dX7_value_38 : decode cX7_value 38 = .ok (.aload_n 0, 1) := by decide +kernel
theorem dX7_value_39 : decode cX7_value 39 = .ok (.getfield 32, 3) := by decide +kernel
theorem dX7_value_42 : decode cX7_value 42 = .ok (.iload_n 1, 1) := by decide +kernel
theorem dX7_value_43 : decode cX7_value 43 = .ok (.iload_n 2, 1) := by decide +kernel
theorem dX7_value_44 : decode cX7_value 44 = .ok (.invokevirtual 117, 3) := by decide +kernel
theorem dX7_value_47 : decode cX7_value 47 = .ok (.aload_n 0, 1) := by decide +kernel
theorem dX7_value_48 : decode cX7_value 48 = .ok (.getfield 32, 3) := by decide +kernel
theorem dX7_value_51 : decode cX7_value 51 = .ok (.getfield 113, 3) := by decide +kernel
theorem dX7_value_54 : decode cX7_value 54 = .ok (.iload_n 1, 1) := by decide +kernel
theorem dX7_value_55 : decode cX7_value 55 = .ok (.iaload, 1) := by decide +kernel
theorem dX7_value_56 : decode cX7_value 56 = .ok (.ireturn, 1) := by decide +kernel
theorem dX7_without_0 : decode cX7_without 0 = .ok (.aload_n 0, 1) := by decide +kernel
theorem dX7_without_1 : decode cX7_without 1 = .ok (.getfield 32, 3) := by decide +kernel
theorem dX7_without_4 : decode cX7_without 4 = .ok (.iload_n 1, 1) := by decide +kernel
theorem dX7_without_5 : decode cX7_without 5 = .ok (.iload_n 2, 1) := by decide +kernel
theorem dX7_without_6 : decode cX7_without 6 = .ok (.invokevirtual 121, 3) := by decide +kernel
theorem dX7_without_9 : decode cX7_without 9 = .ok (.ifCond .ne 5, 3) := by decide +kernel
theorem dX7_without_12 : decode cX7_without 12 = .ok (.iconst (-1), 1) := by decide +kernel
theorem dX7_without_13 : decode cX7_without 13 = .ok (.ireturn, 1) := by decide +kernel
theorem dX7_without_14 : decode cX7_without 14 = .ok (.aload_n 0, 1) := by decide +kernel
theorem dX7_without_15 : decode cX7_without 15 = .ok (.invokevirtual 97, 3) := by decide +kernel
theorem dX7_without_18 : decode cX7_without 18 = .ok (.aload_n 0, 1) := by decide +kernel
theorem dX7_without_19 : decode cX7_without 19 = .ok (.getfield 32, 3) := by decide +kernel
theorem dX7_without_22 : decode cX7_without 22 = .ok (.iload_n 1, 1) := by decide +kernel
theorem dX7_without_23 : decode cX7_without 23 = .ok (.iload_n 2, 1) := by decide +kernel
theorem dX7_without_24 : decode cX7_without 24 = .ok (.invokevirtual 125, 3) := by decide +kernel
theorem dX7_without_27 : decode cX7_without 27 = .ok (.aload_n 0, 1) := by decide +kernel
theorem dX7_without_28 : decode cX7_without 28 = .ok (.getfield 32, 3) := by decide +kernel
theorem dX7_without_31 : decode cX7_without 31 = .ok (.getfield 113, 3) := by decide +kernel
theorem dX7_without_34 : decode cX7_without 34 = .ok (.iload_n 1, 1) := by decide +kernel
theorem dX7_without_35 : decode cX7_without 35 = .ok (.iaload, 1) := by decide +kernel
theorem dX7_without_36 : decode cX7_without 36 = .ok (.ireturn, 1) := by decide +kernel
theorem dX7_cap_0 : decode cX7_cap 0 = .ok (.aload_n 0, 1) := by decide +kernel
theorem dX7_cap_1 : decode cX7_cap 1 = .ok (.getfield 32, 3) := by decide +kernel
theorem dX7_cap_4 : decode cX7_cap 4 = .ok (.iload_n 1, 1) := by decide +kernel
theorem dX7_cap_5 : decode cX7_cap 5 = .ok (.invokevirtual 104, 3) := by decide +kernel
theorem dX7_cap_8 : decode cX7_cap 8 = .ok (.ifCond .eq 26, 3) := by decide +kernel
theorem dX7_cap_11 : decode cX7_cap 11 = .ok (.iload_n 2, 1) := by decide +kernel
theorem dX7_cap_12 : decode cX7_cap 12 = .ok (.ifCond .lt 22, 3) := by decide +kernel
theorem dX7_cap_15 : decode cX7_cap 15 = .ok (.iload_n 2, 1) := by decide +kernel
theorem dX7_cap_16 : decode cX7_cap 16 = .ok (.bipush 8, 2) := by decide +kernel
theorem dX7_cap_18 : decode cX7_cap 18 = .ok (.if_icmp .gt 16, 3) := by decide +kernel
theorem dX7_cap_21 : decode cX7_cap 21 = .ok (.iload_n 2, 1) := by decide +kernel
theorem dX7_cap_22 : decode cX7_cap 22 = .ok (.aload_n 0, 1) := by decide +kernel
theorem dX7_cap_23 : decode cX7_cap 23 = .ok (.getfield 32, 3) := by decide +kernel
theorem dX7_cap_26 : decode cX7_cap 26 = .ok (.getfield 128, 3) := by decide +kernel
theorem dX7_cap_29 : decode cX7_cap 29 = .ok (.iload_n 1, 1) := by decide +kernel
theorem dX7_cap_30 : decode cX7_cap 30 = .ok (.iaload, 1) := by decide +kernel
theorem dX7_cap_31 : decode cX7_cap 31 = .ok (.if_icmp .ne 5, 3) := by decide +kernel
theorem dX7_cap_34 : decode cX7_cap 34 = .ok (.iconst (-1), 1) := by decide +kernel
theorem dX7_cap_35 : decode cX7_cap 35 = .ok (.ireturn, 1) := by decide +kernel
theorem dX7_cap_36 : decode cX7_cap 36 = .ok (.aload_n 0, 1) := by decide +kernel
theorem dX7_cap_37 : decode cX7_cap 37 = .ok (.invokevirtual 97, 3) := by decide +kernel
theorem dX7_cap_40 : decode cX7_cap 40 = .ok (.aload_n 0, 1) := by decide +kernel
theorem dX7_cap_41 : decode cX7_cap 41 = .ok (.getfield 32, 3) := by decide +kernel
theorem dX7_cap_44 : decode cX7_cap 44 = .ok (.getfield 128, 3) := by decide +kernel
theorem dX7_cap_47 : decode cX7_cap 47 = .ok (.iload_n 1, 1) := by decide +kernel
theorem dX7_cap_48 : decode cX7_cap 48 = .ok (.iaload, 1) := by decide +kernel
theorem dX7_cap_49 : decode cX7_cap 49 = .ok (.istore_n 3, 1) := by decide +kernel
theorem dX7_cap_50 : decode cX7_cap 50 = .ok (.aload_n 0, 1) := by decide +kernel
theorem dX7_cap_51 : decode cX7_cap 51 = .ok (.getfield 32, 3) := by decide +kernel
theorem dX7_cap_54 : decode cX7_cap 54 = .ok (.getfield 128, 3) := by decide +kernel
theorem dX7_cap_57 : decode cX7_cap 57 = .ok (.iload_n 1, 1) := by decide +kernel
theorem dX7_cap_58 : decode cX7_cap 58 = .ok (.iload_n 2, 1) := by decide +kernel
theorem dX7_cap_59 : decode cX7_cap 59 = .ok (.iastore, 1) := by decide +kernel
theorem dX7_cap_60 : decode cX7_cap 60 = .ok (.iload_n 3, 1) := by decide +kernel
theorem dX7_cap_61 : decode cX7_cap 61 = .ok (.ireturn, 1) := by decide +kernel
theorem dX7_change_0 : decode cX7_change 0 = .ok (.aload_n 0, 1) := by decide +kernel
theorem dX7_change_1 : decode cX7_change 1 = .ok (.getfield 32, 3) := by decide +kernel
theorem dX7_change_4 : decode cX7_change 4 = .ok (.iload_n 1, 1) := by decide +kernel
theorem dX7_change_5 : decode cX7_change 5 = .ok (.iload_n 2, 1) := by decide +kernel
theorem dX7_change_6 : decode cX7_change 6 = .ok (.invokevirtual 121, 3) := by decide +kernel
theorem dX7_change_9 : decode cX7_change 9 = .ok (.ifCond .eq 23, 3) := by decide +kernel
theorem dX7_change_12 : decode cX7_change 12 = .ok (.iload_n 3, 1) := by decide +kernel
theorem dX7_change_13 : decode cX7_change 13 = .ok (.invokestatic 110, 3) := by decide +kernel
theorem dX7_change_16 : decode cX7_change 16 = .ok (.ifCond .eq 16, 3) := by decide +kernel
theorem dX7_change_19 : decode cX7_change 19 = .ok (.iload_n 3, 1) := by decide +kernel
theorem dX7_change_20 : decode cX7_change 20 = .ok (.aload_n 0, 1) := by decide +kernel
theorem dX7_change_21 : decode cX7_change 21 = .ok (.getfield 32, 3) := by decide +kernel
theorem dX7_change_24 : decode cX7_change 24 = .ok (.iload_n 1, 1) := by decide +kernel
theorem dX7_change_25 : decode cX7_change 25 = .ok (.iload_n 2, 1) := by decide +kernel
theorem dX7_change_26 : decode cX7_change 26 = .ok (.invokevirtual 131, 3) := by decide +kernel
theorem dX7_change_29 : decode cX7_change 29 = .ok (.if_icmp .ne 5, 3) := by decide +kernel
theorem dX7_change_32 : decode cX7_change 32 = .ok (.iconst (-1), 1) := by decide +kernel
theorem dX7_change_33 : decode cX7_change 33 = .ok (.ireturn, 1) := by decide +kernel
theorem dX7_change_34 : decode cX7_change 34 = .ok (.aload_n 0, 1) := by decide +kernel
theorem dX7_change_35 : decode cX7_change 35 = .ok (.invokevirtual 97, 3) := by decide +kernel
theorem dX7_change_38 : decode cX7_change 38 = .ok (.aload_n 0, 1) := by decide +kernel
theorem dX7_change_39 : decode cX7_change 39 = .ok (.getfield 32, 3) := by decide +kernel
theorem dX7_change_42 : decode cX7_change 42 = .ok (.iload_n 1, 1) := by decide +kernel
theorem dX7_change_43 : decode cX7_change 43 = .ok (.iload_n 2, 1) := by decide +kernel
theorem dX7_change_44 : decode cX7_change 44 = .ok (.invokevirtual 131, 3) := by decide +kernel
theorem dX7_change_47 : decode cX7_change 47 = .ok (.istore 4, 2) := by decide +kernel
theorem dX7_change_49 : decode cX7_change 49 = .ok (.aload_n 0, 1) := by decide +kernel
theorem dX7_change_50 : decode cX7_change 50 = .ok (.getfield 32, 3) := by decide +kernel
theorem dX7_change_53 : decode cX7_change 53 = .ok (.iload_n 1, 1) := by decide +kernel
theorem dX7_change_54 : decode cX7_change 54 = .ok (.iload_n 2, 1) := by decide +kernel
theorem dX7_change_55 : decode cX7_change 55 = .ok (.invokevirtual 125, 3) := by decide +kernel
theorem dX7_change_58 : decode cX7_change 58 = .ok (.aload_n 0, 1) := by decide +kernel
theorem dX7_change_59 : decode cX7_change 59 = .ok (.getfield 32, 3) := by decide +kernel
theorem dX7_change_62 : decode cX7_change 62 = .ok (.iload_n 1, 1) := by decide +kernel
theorem dX7_change_63 : decode cX7_change 63 = .ok (.iload_n 3, 1) := by decide +kernel
theorem dX7_change_64 : decode cX7_change 64 = .ok (.invokevirtual 117, 3) := by decide +kernel
theorem dX7_change_67 : decode cX7_change 67 = .ok (.iload 4, 2) := by decide +kernel
theorem dX7_change_69 : decode cX7_change 69 = .ok (.ireturn, 1) := by decide +kernel
theorem dX7_split_0 : decode cX7_split 0 = .ok (.aload_n 0, 1) := by decide +kernel
theorem dX7_split_1 : decode cX7_split 1 = .ok (.getfield 32, 3) := by decide +kernel
theorem dX7_split_4 : decode cX7_split 4 = .ok (.iload_n 1, 1) := by decide +kernel
theorem dX7_split_5 : decode cX7_split 5 = .ok (.iload_n 2, 1) := by decide +kernel
theorem dX7_split_6 : decode cX7_split 6 = .ok (.invokevirtual 135, 3) := by decide +kernel
theorem dX7_split_9 : decode cX7_split 9 = .ok (.ifCond .eq 15, 3) := by decide +kernel
theorem dX7_split_12 : decode cX7_split 12 = .ok (.aload_n 0, 1) := by decide +kernel
theorem dX7_split_13 : decode cX7_split 13 = .ok (.getfield 32, 3) := by decide +kernel
theorem dX7_split_16 : decode cX7_split 16 = .ok (.getfield 94, 3) := by decide +kernel
theorem dX7_split_19 : decode cX7_split 19 = .ok (.bipush 8, 2) := by decide +kernel
theorem dX7_split_21 : decode cX7_split 21 = .ok (.if_icmp .lt 5, 3) := by decide +kernel
theorem dX7_split_24 : decode cX7_split 24 = .ok (.iconst (-1), 1) := by decide +kernel
theorem dX7_split_25 : decode cX7_split 25 = .ok (.ireturn, 1) := by decide +kernel
theorem dX7_split_26 : decode cX7_split 26 = .ok (.aload_n 0, 1) := by decide +kernel
theorem dX7_split_27 : decode cX7_split 27 = .ok (.invokevirtual 97, 3) := by decide +kernel
theorem dX7_split_30 : decode cX7_split 30 = .ok (.aload_n 0, 1) := by decide +kernel
theorem dX7_split_31 : decode cX7_split 31 = .ok (.getfield 32, 3) := by decide +kernel
theorem dX7_split_34 : decode cX7_split 34 = .ok (.iload_n 1, 1) := by decide +kernel
theorem dX7_split_35 : decode cX7_split 35 = .ok (.iload_n 2, 1) := by decide +kernel
theorem dX7_split_36 : decode cX7_split 36 = .ok (.invokevirtual 138, 3) := by decide +kernel
theorem dX7_split_39 : decode cX7_split 39 = .ok (.ireturn, 1) := by decide +kernel
theorem dX7_move_0 : decode cX7_move 0 = .ok (.aload_n 0, 1) := by decide +kernel
theorem dX7_move_1 : decode cX7_move 1 = .ok (.getfield 32, 3) := by decide +kernel
theorem dX7_move_4 : decode cX7_move 4 = .ok (.iload_n 1, 1) := by decide +kernel
theorem dX7_move_5 : decode cX7_move 5 = .ok (.iload_n 2, 1) := by decide +kernel
theorem dX7_move_6 : decode cX7_move 6 = .ok (.invokevirtual 141, 3) := by decide +kernel
theorem dX7_move_9 : decode cX7_move 9 = .ok (.ifCond .ne 5, 3) := by decide +kernel
theorem dX7_move_12 : decode cX7_move 12 = .ok (.iconst 0, 1) := by decide +kernel
theorem dX7_move_13 : decode cX7_move 13 = .ok (.ireturn, 1) := by decide +kernel
theorem dX7_move_14 : decode cX7_move 14 = .ok (.aload_n 0, 1) := by decide +kernel
theorem dX7_move_15 : decode cX7_move 15 = .ok (.invokevirtual 97, 3) := by decide +kernel
theorem dX7_move_18 : decode cX7_move 18 = .ok (.aload_n 0, 1) := by decide +kernel
theorem dX7_move_19 : decode cX7_move 19 = .ok (.getfield 32, 3) := by decide +kernel
theorem dX7_move_22 : decode cX7_move 22 = .ok (.iload_n 1, 1) := by decide +kernel
theorem dX7_move_23 : decode cX7_move 23 = .ok (.iload_n 2, 1) := by decide +kernel
theorem dX7_move_24 : decode cX7_move 24 = .ok (.invokevirtual 144, 3) := by decide +kernel
theorem dX7_move_27 : decode cX7_move 27 = .ok (.iconst 1, 1) := by decide +kernel
theorem dX7_move_28 : decode cX7_move 28 = .ok (.ireturn, 1) := by decide +kernel
theorem dX7_copy_0 : decode cX7_copy 0 = .ok (.aload_n 0, 1) := by decide +kernel
theorem dX7_copy_1 : decode cX7_copy 1 = .ok (.getfield 32, 3) := by decide +kernel
theorem dX7_copy_4 : decode cX7_copy 4 = .ok (.iload_n 1, 1) := by decide +kernel
theorem dX7_copy_5 : decode cX7_copy 5 = .ok (.invokevirtual 104, 3) := by decide +kernel
theorem dX7_copy_8 : decode cX7_copy 8 = .ok (.ifCond .eq 15, 3) := by decide +kernel
theorem dX7_copy_11 : decode cX7_copy 11 = .ok (.aload_n 0, 1) := by decide +kernel
theorem dX7_copy_12 : decode cX7_copy 12 = .ok (.getfield 32, 3) := by decide +kernel
theorem dX7_copy_15 : decode cX7_copy 15 = .ok (.getfield 94, 3) := by decide +kernel
theorem dX7_copy_18 : decode cX7_copy 18 = .ok (.bipush 8, 2) := by decide +kernel
theorem dX7_copy_20 : decode cX7_copy 20 = .ok (.if_icmp .lt 5, 3) := by decide +kernel
theorem dX7_copy_23 : decode cX7_copy 23 = .ok (.iconst (-1), 1) := by decide +kernel
theorem dX7_copy_24 : decode cX7_copy 24 = .ok (.ireturn, 1) := by decide +kernel
theorem dX7_copy_25 : decode cX7_copy 25 = .ok (.aload_n 0, 1) := by decide +kernel
theorem dX7_copy_26 : decode cX7_copy 26 = .ok (.invokevirtual 97, 3) := by decide +kernel
theorem dX7_copy_29 : decode cX7_copy 29 = .ok (.aload_n 0, 1) := by decide +kernel
theorem dX7_copy_30 : decode cX7_copy 30 = .ok (.getfield 32, 3) := by decide +kernel
theorem dX7_copy_33 : decode cX7_copy 33 = .ok (.invokevirtual 100, 3) := by decide +kernel
theorem dX7_copy_36 : decode cX7_copy 36 = .ok (.istore_n 2, 1) := by decide +kernel
theorem dX7_copy_37 : decode cX7_copy 37 = .ok (.aload_n 0, 1) := by decide +kernel
theorem dX7_copy_38 : decode cX7_copy 38 = .ok (.getfield 32, 3) := by decide +kernel
theorem dX7_copy_41 : decode cX7_copy 41 = .ok (.iload_n 2, 1) := by decide +kernel
theorem dX7_copy_42 : decode cX7_copy 42 = .ok (.aload_n 0, 1) := by decide +kernel
theorem dX7_copy_43 : decode cX7_copy 43 = .ok (.getfield 32, 3) := by decide +kernel
theorem dX7_copy_46 : decode cX7_copy 46 = .ok (.iload_n 1, 1) := by decide +kernel
theorem dX7_copy_47 : decode cX7_copy 47 = .ok (.invokevirtual 147, 3) := by decide +kernel
theorem dX7_copy_50 : decode cX7_copy 50 = .ok (.iload_n 2, 1) := by decide +kernel
theorem dX7_copy_51 : decode cX7_copy 51 = .ok (.ireturn, 1) := by decide +kernel
theorem dX7_clear_0 : decode cX7_clear 0 = .ok (.aload_n 0, 1) := by decide +kernel
theorem dX7_clear_1 : decode cX7_clear 1 = .ok (.getfield 32, 3) := by decide +kernel
theorem dX7_clear_4 : decode cX7_clear 4 = .ok (.iload_n 1, 1) := by decide +kernel
theorem dX7_clear_5 : decode cX7_clear 5 = .ok (.invokevirtual 104, 3) := by decide +kernel
theorem dX7_clear_8 : decode cX7_clear 8 = .ok (.ifCond .eq 15, 3) := by decide +kernel
theorem dX7_clear_11 : decode cX7_clear 11 = .ok (.aload_n 0, 1) := by decide +kernel
theorem dX7_clear_12 : decode cX7_clear 12 = .ok (.getfield 32, 3) := by decide +kernel
theorem dX7_clear_15 : decode cX7_clear 15 = .ok (.getfield 113, 3) := by decide +kernel
theorem dX7_clear_18 : decode cX7_clear 18 = .ok (.iload_n 1, 1) := by decide +kernel
theorem dX7_clear_19 : decode cX7_clear 19 = .ok (.iaload, 1) := by decide +kernel
theorem dX7_clear_20 : decode cX7_clear 20 = .ok (.ifCond .ne 5, 3) := by decide +kernel
theorem dX7_clear_23 : decode cX7_clear 23 = .ok (.iconst (-1), 1) := by decide +kernel
theorem dX7_clear_24 : decode cX7_clear 24 = .ok (.ireturn, 1) := by decide +kernel
theorem dX7_clear_25 : decode cX7_clear 25 = .ok (.aload_n 0, 1) := by decide +kernel
theorem dX7_clear_26 : decode cX7_clear 26 = .ok (.invokevirtual 97, 3) := by decide +kernel
theorem dX7_clear_29 : decode cX7_clear 29 = .ok (.aload_n 0, 1) := by decide +kernel
theorem dX7_clear_30 : decode cX7_clear 30 = .ok (.getfield 32, 3) := by decide +kernel
theorem dX7_clear_33 : decode cX7_clear 33 = .ok (.getfield 113, 3) := by decide +kernel
theorem dX7_clear_36 : decode cX7_clear 36 = .ok (.iload_n 1, 1) := by decide +kernel
theorem dX7_clear_37 : decode cX7_clear 37 = .ok (.iaload, 1) := by decide +kernel
theorem dX7_clear_38 : decode cX7_clear 38 = .ok (.istore_n 2, 1) := by decide +kernel
theorem dX7_clear_39 : decode cX7_clear 39 = .ok (.aload_n 0, 1) := by decide +kernel
theorem dX7_clear_40 : decode cX7_clear 40 = .ok (.getfield 32, 3) := by decide +kernel
theorem dX7_clear_43 : decode cX7_clear 43 = .ok (.getfield 113, 3) := by decide +kernel
theorem dX7_clear_46 : decode cX7_clear 46 = .ok (.iload_n 1, 1) := by decide +kernel
theorem dX7_clear_47 : decode cX7_clear 47 = .ok (.iconst 0, 1) := by decide +kernel
theorem dX7_clear_48 : decode cX7_clear 48 = .ok (.iastore, 1) := by decide +kernel
theorem dX7_clear_49 : decode cX7_clear 49 = .ok (.iload_n 2, 1) := by decide +kernel
theorem dX7_clear_50 : decode cX7_clear 50 = .ok (.ireturn, 1) := by decide +kernel
theorem dX7_hold_0 : decode cX7_hold 0 = .ok (.iload_n 1, 1) := by decide +kernel
theorem dX7_hold_1 : decode cX7_hold 1 = .ok (.invokestatic 151, 3) := by decide +kernel
theorem dX7_hold_4 : decode cX7_hold 4 = .ok (.ifCond .ne 5, 3) := by decide +kernel
theorem dX7_hold_7 : decode cX7_hold 7 = .ok (.iconst (-1), 1) := by decide +kernel
theorem dX7_hold_8 : decode cX7_hold 8 = .ok (.ireturn, 1) := by decide +kernel
theorem dX7_hold_9 : decode cX7_hold 9 = .ok (.aload_n 0, 1) := by decide +kernel
theorem dX7_hold_10 : decode cX7_hold 10 = .ok (.invokevirtual 154, 3) := by decide +kernel
theorem dX7_hold_13 : decode cX7_hold 13 = .ok (.astore_n 2, 1) := by decide +kernel
theorem dX7_hold_14 : decode cX7_hold 14 = .ok (.aload_n 0, 1) := by decide +kernel
theorem dX7_hold_15 : decode cX7_hold 15 = .ok (.invokevirtual 97, 3) := by decide +kernel
theorem dX7_hold_18 : decode cX7_hold 18 = .ok (.aload_n 0, 1) := by decide +kernel
theorem dX7_hold_19 : decode cX7_hold 19 = .ok (.getfield 36, 3) := by decide +kernel
theorem dX7_hold_22 : decode cX7_hold 22 = .ok (.aload_n 2, 1) := by decide +kernel
theorem dX7_hold_23 : decode cX7_hold 23 = .ok (.getfield 158, 3) := by decide +kernel
theorem dX7_hold_26 : decode cX7_hold 26 = .ok (.aload_n 2, 1) := by decide +kernel
theorem dX7_hold_27 : decode cX7_hold 27 = .ok (.getfield 161, 3) := by decide +kernel
theorem dX7_hold_30 : decode cX7_hold 30 = .ok (.aload_n 2, 1) := by decide +kernel
theorem dX7_hold_31 : decode cX7_hold 31 = .ok (.iload_n 1, 1) := by decide +kernel
theorem dX7_hold_32 : decode cX7_hold 32 = .ok (.invokevirtual 164, 3) := by decide +kernel
theorem dX7_hold_35 : decode cX7_hold 35 = .ok (.iload_n 1, 1) := by decide +kernel
theorem dX7_hold_36 : decode cX7_hold 36 = .ok (.invokevirtual 168, 3) := by decide +kernel
theorem dX7_hold_39 : decode cX7_hold 39 = .ok (.aload_n 0, 1) := by decide +kernel
theorem dX7_hold_40 : decode cX7_hold 40 = .ok (.getfield 32, 3) := by decide +kernel
theorem dX7_hold_43 : decode cX7_hold 43 = .ok (.aload_n 2, 1) := by decide +kernel
theorem dX7_hold_44 : decode cX7_hold 44 = .ok (.getfield 172, 3) := by decide +kernel
theorem dX7_hold_47 : decode cX7_hold 47 = .ok (.invokevirtual 175, 3) := by decide +kernel
theorem dX7_hold_50 : decode cX7_hold 50 = .ok (.aload_n 2, 1) := by decide +kernel
theorem dX7_hold_51 : decode cX7_hold 51 = .ok (.getfield 161, 3) := by decide +kernel
theorem dX7_hold_54 : decode cX7_hold 54 = .ok (.ireturn, 1) := by decide +kernel
theorem dX7_shade_0 : decode cX7_shade 0 = .ok (.aload_n 0, 1) := by decide +kernel
theorem dX7_shade_1 : decode cX7_shade 1 = .ok (.getfield 32, 3) := by decide +kernel
theorem dX7_shade_4 : decode cX7_shade 4 = .ok (.iload_n 1, 1) := by decide +kernel
theorem dX7_shade_5 : decode cX7_shade 5 = .ok (.invokevirtual 104, 3) := by decide +kernel
theorem dX7_shade_8 : decode cX7_shade 8 = .ok (.ifCond .eq 15, 3) := by decide +kernel
theorem dX7_shade_11 : decode cX7_shade 11 = .ok (.iload_n 2, 1) := by decide +kernel
theorem dX7_shade_12 : decode cX7_shade 12 = .ok (.bipush 99, 2) := by decide +kernel
theorem dX7_shade_14 : decode cX7_shade 14 = .ok (.if_icmp .gt 9, 3) := by decide +kernel
theorem dX7_shade_17 : decode cX7_shade 17 = .ok (.iload_n 2, 1) := by decide +kernel
theorem dX7_shade_18 : decode cX7_shade 18 = .ok (.bipush (-99), 2) := by decide +kernel
theorem dX7_shade_20 : decode cX7_shade 20 = .ok (.if_icmp .ge 5, 3) := by decide +kernel
theorem dX7_shade_23 : decode cX7_shade 23 = .ok (.iconst (-1), 1) := by decide +kernel
theorem dX7_shade_24 : decode cX7_shade 24 = .ok (.ireturn, 1) := by decide +kernel
theorem dX7_shade_25 : decode cX7_shade 25 = .ok (.aload_n 0, 1) := by decide +kernel
theorem dX7_shade_26 : decode cX7_shade 26 = .ok (.getfield 32, 3) := by decide +kernel
theorem dX7_shade_29 : decode cX7_shade 29 = .ok (.iload_n 1, 1) := by decide +kernel
theorem dX7_shade_30 : decode cX7_shade 30 = .ok (.iload_n 2, 1) := by decide +kernel
theorem dX7_shade_31 : decode cX7_shade 31 = .ok (.invokevirtual 179, 3) := by decide +kernel
theorem dX7_shade_34 : decode cX7_shade 34 = .ok (.istore_n 3, 1) := by decide +kernel
theorem dX7_shade_35 : decode cX7_shade 35 = .ok (.iload_n 3, 1) := by decide +kernel
theorem dX7_shade_36 : decode cX7_shade 36 = .ok (.ifCond .ne 5, 3) := by decide +kernel
theorem dX7_shade_39 : decode cX7_shade 39 = .ok (.iconst (-1), 1) := by decide +kernel
theorem dX7_shade_40 : decode cX7_shade 40 = .ok (.ireturn, 1) := by decide +kernel
theorem dX7_shade_41 : decode cX7_shade 41 = .ok (.aload_n 0, 1) := by decide +kernel
theorem dX7_shade_42 : decode cX7_shade 42 = .ok (.invokevirtual 97, 3) := by decide +kernel
theorem dX7_shade_45 : decode cX7_shade 45 = .ok (.aload_n 0, 1) := by decide +kernel
theorem dX7_shade_46 : decode cX7_shade 46 = .ok (.getfield 32, 3) := by decide +kernel
theorem dX7_shade_49 : decode cX7_shade 49 = .ok (.iload_n 1, 1) := by decide +kernel
theorem dX7_shade_50 : decode cX7_shade 50 = .ok (.iload_n 2, 1) := by decide +kernel
theorem dX7_shade_51 : decode cX7_shade 51 = .ok (.invokevirtual 182, 3) := by decide +kernel
theorem dX7_shade_54 : decode cX7_shade 54 = .ok (.iload_n 3, 1) := by decide +kernel
theorem dX7_shade_55 : decode cX7_shade 55 = .ok (.ireturn, 1) := by decide +kernel
theorem dX7_swap_0 : decode cX7_swap 0 = .ok (.aload_n 0, 1) := by decide +kernel
theorem dX7_swap_1 : decode cX7_swap 1 = .ok (.getfield 32, 3) := by decide +kernel
theorem dX7_swap_4 : decode cX7_swap 4 = .ok (.iload_n 1, 1) := by decide +kernel
theorem dX7_swap_5 : decode cX7_swap 5 = .ok (.iload_n 2, 1) := by decide +kernel
theorem dX7_swap_6 : decode cX7_swap 6 = .ok (.invokevirtual 141, 3) := by decide +kernel
theorem dX7_swap_9 : decode cX7_swap 9 = .ok (.ifCond .ne 5, 3) := by decide +kernel
theorem dX7_swap_12 : decode cX7_swap 12 = .ok (.iconst 0, 1) := by decide +kernel
theorem dX7_swap_13 : decode cX7_swap 13 = .ok (.ireturn, 1) := by decide +kernel
theorem dX7_swap_14 : decode cX7_swap 14 = .ok (.aload_n 0, 1) := by decide +kernel
theorem dX7_swap_15 : decode cX7_swap 15 = .ok (.invokevirtual 97, 3) := by decide +kernel
theorem dX7_swap_18 : decode cX7_swap 18 = .ok (.aload_n 0, 1) := by decide +kernel
theorem dX7_swap_19 : decode cX7_swap 19 = .ok (.getfield 32, 3) := by decide +kernel
theorem dX7_swap_22 : decode cX7_swap 22 = .ok (.iload_n 1, 1) := by decide +kernel
theorem dX7_swap_23 : decode cX7_swap 23 = .ok (.iload_n 2, 1) := by decide +kernel
theorem dX7_swap_24 : decode cX7_swap 24 = .ok (.invokevirtual 185, 3) := by decide +kernel
theorem dX7_swap_27 : decode cX7_swap 27 = .ok (.iconst 1, 1) := by decide +kernel
theorem dX7_swap_28 : decode cX7_swap 28 = .ok (.ireturn, 1) := by decide +kernel
theorem dX7_supply_0 : decode cX7_supply 0 = .ok (.iload_n 1, 1) := by decide +kernel
theorem dX7_supply_1 : decode cX7_supply 1 = .ok (.invokestatic 188, 3) := by decide +kernel
theorem dX7_supply_4 : decode cX7_supply 4 = .ok (.ifCond .eq 14, 3) := by decide +kernel
theorem dX7_supply_7 : decode cX7_supply 7 = .ok (.iload_n 1, 1) := by decide +kernel
theorem dX7_supply_8 : decode cX7_supply 8 = .ok (.aload_n 0, 1) := by decide +kernel
theorem dX7_supply_9 : decode cX7_supply 9 = .ok (.getfield 32, 3) := by decide +kernel
theorem dX7_supply_12 : decode cX7_supply 12 = .ok (.getfield 191, 3) := by decide +kernel
theorem dX7_supply_15 : decode cX7_supply 15 = .ok (.if_icmp .ne 5, 3) := by decide +kernel
theorem dX7_supply_18 : decode cX7_supply 18 = .ok (.iconst (-1), 1) := by decide +kernel
theorem dX7_supply_19 : decode cX7_supply 19 = .ok (.ireturn, 1) := by decide +kernel
theorem dX7_supply_20 : decode cX7_supply 20 = .ok (.aload_n 0, 1) := by decide +kernel
theorem dX7_supply_21 : decode cX7_supply 21 = .ok (.invokevirtual 97, 3) := by decide +kernel
theorem dX7_supply_24 : decode cX7_supply 24 = .ok (.aload_n 0, 1) := by decide +kernel
theorem dX7_supply_25 : decode cX7_supply 25 = .ok (.getfield 32, 3) := by decide +kernel
theorem dX7_supply_28 : decode cX7_supply 28 = .ok (.getfield 191, 3) := by decide +kernel
theorem dX7_supply_31 : decode cX7_supply 31 = .ok (.istore_n 2, 1) := by decide +kernel
theorem dX7_supply_32 : decode cX7_supply 32 = .ok (.aload_n 0, 1) := by decide +kernel
theorem dX7_supply_33 : decode cX7_supply 33 = .ok (.getfield 32, 3) := by decide +kernel
theorem dX7_supply_36 : decode cX7_supply 36 = .ok (.iload_n 1, 1) := by decide +kernel
theorem dX7_supply_37 : decode cX7_supply 37 = .ok (.putfield 191, 3) := by decide +kernel
theorem dX7_supply_40 : decode cX7_supply 40 = .ok (.iload_n 2, 1) := by decide +kernel
theorem dX7_supply_41 : decode cX7_supply 41 = .ok (.ireturn, 1) := by decide +kernel
theorem dX7_reserve_0 : decode cX7_reserve 0 = .ok (.iload_n 1, 1) := by decide +kernel
theorem dX7_reserve_1 : decode cX7_reserve 1 = .ok (.invokestatic 110, 3) := by decide +kernel
theorem dX7_reserve_4 : decode cX7_reserve 4 = .ok (.ifCond .eq 14, 3) := by decide +kernel
theorem dX7_reserve_7 : decode cX7_reserve 7 = .ok (.iload_n 1, 1) := by decide +kernel
theorem dX7_reserve_8 : decode cX7_reserve 8 = .ok (.aload_n 0, 1) := by decide +kernel
theorem dX7_reserve_9 : decode cX7_reserve 9 = .ok (.getfield 32, 3) := by decide +kernel
theorem dX7_reserve_12 : decode cX7_reserve 12 = .ok (.getfield 194, 3) := by decide +kernel
theorem dX7_reserve_15 : decode cX7_reserve 15 = .ok (.if_icmp .ne 5, 3) := by decide +kernel
theorem dX7_reserve_18 : decode cX7_reserve 18 = .ok (.iconst (-1), 1) := by decide +kernel
theorem dX7_reserve_19 : decode cX7_reserve 19 = .ok (.ireturn, 1) := by decide +kernel
theorem dX7_reserve_20 : decode cX7_reserve 20 = .ok (.aload_n 0, 1) := by decide +kernel
theorem dX7_reserve_21 : decode cX7_reserve 21 = .ok (.invokevirtual 97, 3) := by decide +kernel
theorem dX7_reserve_24 : decode cX7_reserve 24 = .ok (.aload_n 0, 1) := by decide +kernel
theorem dX7_reserve_25 : decode cX7_reserve 25 = .ok (.getfield 32, 3) := by decide +kernel
theorem dX7_reserve_28 : decode cX7_reserve 28 = .ok (.getfield 194, 3) := by decide +kernel
theorem dX7_reserve_31 : decode cX7_reserve 31 = .ok (.istore_n 2, 1) := by decide +kernel
theorem dX7_reserve_32 : decode cX7_reserve 32 = .ok (.aload_n 0, 1) := by decide +kernel
theorem dX7_reserve_33 : decode cX7_reserve 33 = .ok (.getfield 32, 3) := by decide +kernel
theorem dX7_reserve_36 : decode cX7_reserve 36 = .ok (.iload_n 1, 1) := by decide +kernel
theorem dX7_reserve_37 : decode cX7_reserve 37 = .ok (.putfield 194, 3) := by decide +kernel
theorem dX7_reserve_40 : decode cX7_reserve 40 = .ok (.iload_n 2, 1) := by decide +kernel
theorem dX7_reserve_41 : decode cX7_reserve 41 = .ok (.ireturn, 1) := by decide +kernel
theorem dX7_undo_0 : decode cX7_undo 0 = .ok (.aload_n 0, 1) := by decide +kernel
theorem dX7_undo_1 : decode cX7_undo 1 = .ok (.getfield 43, 3) := by decide +kernel
theorem dX7_undo_4 : decode cX7_undo 4 = .ok (.getfield 91, 3) := by decide +kernel
theorem dX7_undo_7 : decode cX7_undo 7 = .ok (.ifCond .ne 5, 3) := by decide +kernel
theorem dX7_undo_10 : decode cX7_undo 10 = .ok (.iconst (-1), 1) := by decide +kernel
theorem dX7_undo_11 : decode cX7_undo 11 = .ok (.ireturn, 1) := by decide +kernel
theorem dX7_undo_12 : decode cX7_undo 12 = .ok (.aload_n 0, 1) := by decide +kernel
theorem dX7_undo_13 : decode cX7_undo 13 = .ok (.getfield 43, 3) := by decide +kernel
theorem dX7_undo_16 : decode cX7_undo 16 = .ok (.aload_n 0, 1) := by decide +kernel
theorem dX7_undo_17 : decode cX7_undo 17 = .ok (.getfield 32, 3) := by decide +kernel
theorem dX7_undo_20 : decode cX7_undo 20 = .ok (.aload_n 0, 1) := by decide +kernel
theorem dX7_undo_21 : decode cX7_undo 21 = .ok (.getfield 36, 3) := by decide +kernel
theorem dX7_undo_24 : decode cX7_undo 24 = .ok (.invokevirtual 197, 3) := by decide +kernel
theorem dX7_undo_27 : decode cX7_undo 27 = .ok (.aload_n 0, 1) := by decide +kernel
theorem dX7_undo_28 : decode cX7_undo 28 = .ok (.iconst 1, 1) := by decide +kernel
theorem dX7_undo_29 : decode cX7_undo 29 = .ok (.putfield 60, 3) := by decide +kernel
theorem dX7_undo_32 : decode cX7_undo 32 = .ok (.aload_n 0, 1) := by decide +kernel
theorem dX7_undo_33 : decode cX7_undo 33 = .ok (.getfield 43, 3) := by decide +kernel
theorem dX7_undo_36 : decode cX7_undo 36 = .ok (.getfield 91, 3) := by decide +kernel
theorem dX7_undo_39 : decode cX7_undo 39 = .ok (.ireturn, 1) := by decide +kernel
theorem dX7_of_0 : decode cX7_of 0 = .ok (.aload_n 0, 1) := by decide +kernel
theorem dX7_of_1 : decode cX7_of 1 = .ok (.getfield 32, 3) := by decide +kernel
theorem dX7_of_4 : decode cX7_of 4 = .ok (.iload_n 1, 1) := by decide +kernel
theorem dX7_of_5 : decode cX7_of 5 = .ok (.invokevirtual 104, 3) := by decide +kernel
theorem dX7_of_8 : decode cX7_of 8 = .ok (.ifCond .ne 5, 3) := by decide +kernel
theorem dX7_of_11 : decode cX7_of 11 = .ok (.iconst (-1), 1) := by decide +kernel
theorem dX7_of_12 : decode cX7_of 12 = .ok (.ireturn, 1) := by decide +kernel
theorem dX7_of_13 : decode cX7_of 13 = .ok (.aload_n 0, 1) := by decide +kernel
theorem dX7_of_14 : decode cX7_of 14 = .ok (.invokevirtual 154, 3) := by decide +kernel
theorem dX7_of_17 : decode cX7_of 17 = .ok (.astore_n 3, 1) := by decide +kernel
theorem dX7_of_18 : decode cX7_of 18 = .ok (.iload_n 2, 1) := by decide +kernel
theorem dX7_of_19 : decode cX7_of 19 = .ok (.tableswitch 105 0 5 #[37, 47, 57, 64, 70, 84], 37) := by decide +kernel
theorem dX7_of_56 : decode cX7_of 56 = .ok (.aload_n 0, 1) := by decide +kernel
theorem dX7_of_57 : decode cX7_of 57 = .ok (.getfield 32, 3) := by decide +kernel
theorem dX7_of_60 : decode cX7_of 60 = .ok (.getfield 113, 3) := by decide +kernel
theorem dX7_of_63 : decode cX7_of 63 = .ok (.iload_n 1, 1) := by decide +kernel
theorem dX7_of_64 : decode cX7_of 64 = .ok (.iaload, 1) := by decide +kernel
theorem dX7_of_65 : decode cX7_of 65 = .ok (.ireturn, 1) := by decide +kernel
theorem dX7_of_66 : decode cX7_of 66 = .ok (.aload_n 0, 1) := by decide +kernel
theorem dX7_of_67 : decode cX7_of 67 = .ok (.getfield 32, 3) := by decide +kernel
theorem dX7_of_70 : decode cX7_of 70 = .ok (.getfield 128, 3) := by decide +kernel
theorem dX7_of_73 : decode cX7_of 73 = .ok (.iload_n 1, 1) := by decide +kernel
theorem dX7_of_74 : decode cX7_of 74 = .ok (.iaload, 1) := by decide +kernel
theorem dX7_of_75 : decode cX7_of 75 = .ok (.ireturn, 1) := by decide +kernel
theorem dX7_of_76 : decode cX7_of 76 = .ok (.aload_n 3, 1) := by decide +kernel
theorem dX7_of_77 : decode cX7_of 77 = .ok (.getfield 172, 3) := by decide +kernel
theorem dX7_of_80 : decode cX7_of 80 = .ok (.iload_n 1, 1) := by decide +kernel
theorem dX7_of_81 : decode cX7_of 81 = .ok (.iaload, 1) := by decide +kernel
theorem dX7_of_82 : decode cX7_of 82 = .ok (.ireturn, 1) := by decide +kernel
theorem dX7_of_83 : decode cX7_of 83 = .ok (.aload_n 3, 1) := by decide +kernel
theorem dX7_of_84 : decode cX7_of 84 = .ok (.iload_n 1, 1) := by decide +kernel
theorem dX7_of_85 : decode cX7_of 85 = .ok (.invokevirtual 201, 3) := by decide +kernel
theorem dX7_of_88 : decode cX7_of 88 = .ok (.ireturn, 1) := by decide +kernel
theorem dX7_of_89 : decode cX7_of 89 = .ok (.aload_n 3, 1) := by decide +kernel
theorem dX7_of_90 : decode cX7_of 90 = .ok (.getfield 172, 3) := by decide +kernel
theorem dX7_of_93 : decode cX7_of 93 = .ok (.iload_n 1, 1) := by decide +kernel
theorem dX7_of_94 : decode cX7_of 94 = .ok (.iaload, 1) := by decide +kernel
theorem dX7_of_95 : decode cX7_of 95 = .ok (.aload_n 3, 1) := by decide +kernel
theorem dX7_of_96 : decode cX7_of 96 = .ok (.getfield 204, 3) := by decide +kernel
theorem dX7_of_99 : decode cX7_of 99 = .ok (.iload_n 1, 1) := by decide +kernel
theorem dX7_of_100 : decode cX7_of 100 = .ok (.iaload, 1) := by decide +kernel
theorem dX7_of_101 : decode cX7_of 101 = .ok (.isub, 1) := by decide +kernel
theorem dX7_of_102 : decode cX7_of 102 = .ok (.ireturn, 1) := by decide +kernel
theorem dX7_of_103 : decode cX7_of 103 = .ok (.aload_n 3, 1) := by decide +kernel
theorem dX7_of_104 : decode cX7_of 104 = .ok (.getfield 204, 3) := by decide +kernel
theorem dX7_of_107 : decode cX7_of 107 = .ok (.iload_n 1, 1) := by decide +kernel
theorem dX7_of_108 : decode cX7_of 108 = .ok (.iaload, 1) := by decide +kernel
theorem dX7_of_109 : decode cX7_of 109 = .ok (.ifCond .ne 8, 3) := by decide +kernel
theorem dX7_of_112 : decode cX7_of 112 = .ok (.bipush (-2), 2) := by decide +kernel
theorem dX7_of_114 : decode cX7_of 114 = .ok (.goto 9, 3) := by decide +kernel
theorem dX7_of_117 : decode cX7_of 117 = .ok (.aload_n 3, 1) := by decide +kernel
theorem dX7_of_118 : decode cX7_of 118 = .ok (.iload_n 1, 1) := by decide +kernel
theorem dX7_of_119 : decode cX7_of 119 = .ok (.iconst 0, 1) := by decide +kernel
theorem dX7_of_120 : decode cX7_of 120 = .ok (.invokevirtual 207, 3) := by decide +kernel
theorem dX7_of_123 : decode cX7_of 123 = .ok (.ireturn, 1) := by decide +kernel
theorem dX7_of_124 : decode cX7_of 124 = .ok (.iconst (-1), 1) := by decide +kernel
theorem dX7_of_125 : decode cX7_of 125 = .ok (.ireturn, 1) := by decide +kernel
theorem dX7_valueOf_0 : decode cX7_valueOf 0 = .ok (.aload_n 0, 1) := by decide +kernel
theorem dX7_valueOf_1 : decode cX7_valueOf 1 = .ok (.getfield 32, 3) := by decide +kernel
theorem dX7_valueOf_4 : decode cX7_valueOf 4 = .ok (.iload_n 1, 1) := by decide +kernel
theorem dX7_valueOf_5 : decode cX7_valueOf 5 = .ok (.iload_n 2, 1) := by decide +kernel
theorem dX7_valueOf_6 : decode cX7_valueOf 6 = .ok (.invokevirtual 121, 3) := by decide +kernel
theorem dX7_valueOf_9 : decode cX7_valueOf 9 = .ok (.ifCond .eq 15, 3) := by decide +kernel
theorem dX7_valueOf_12 : decode cX7_valueOf 12 = .ok (.aload_n 0, 1) := by decide +kernel
theorem dX7_valueOf_13 : decode cX7_valueOf 13 = .ok (.getfield 32, 3) := by decide +kernel
theorem dX7_valueOf_16 : decode cX7_valueOf 16 = .ok (.iload_n 1, 1) := by decide +kernel
theorem dX7_valueOf_17 : decode cX7_valueOf 17 = .ok (.iload_n 2, 1) := by decide +kernel
theorem dX7_valueOf_18 : decode cX7_valueOf 18 = .ok (.invokevirtual 131, 3) := by decide +kernel
theorem dX7_valueOf_21 : decode cX7_valueOf 21 = .ok (.goto 4, 3) := by decide +kernel
theorem dX7_valueOf_24 : decode cX7_valueOf 24 = .ok (.iconst (-1), 1) := by decide +kernel
theorem dX7_valueOf_25 : decode cX7_valueOf 25 = .ok (.ireturn, 1) := by decide +kernel
theorem dX7_unit_0 : decode cX7_unit 0 = .ok (.aload_n 0, 1) := by decide +kernel
theorem dX7_unit_1 : decode cX7_unit 1 = .ok (.getfield 32, 3) := by decide +kernel
theorem dX7_unit_4 : decode cX7_unit 4 = .ok (.iload_n 1, 1) := by decide +kernel
theorem dX7_unit_5 : decode cX7_unit 5 = .ok (.invokevirtual 104, 3) := by decide +kernel
theorem dX7_unit_8 : decode cX7_unit 8 = .ok (.ifCond .eq 7, 3) := by decide +kernel
theorem dX7_unit_11 : decode cX7_unit 11 = .ok (.iload_n 2, 1) := by decide +kernel
theorem dX7_unit_12 : decode cX7_unit 12 = .ok (.ifCond .ge 5, 3) := by decide +kernel
theorem dX7_unit_15 : decode cX7_unit 15 = .ok (.iconst (-1), 1) := by decide +kernel
theorem dX7_unit_16 : decode cX7_unit 16 = .ok (.ireturn, 1) := by decide +kernel
theorem dX7_unit_17 : decode cX7_unit 17 = .ok (.aload_n 0, 1) := by decide +kernel
theorem dX7_unit_18 : decode cX7_unit 18 = .ok (.invokevirtual 154, 3) := by decide +kernel
theorem dX7_unit_21 : decode cX7_unit 21 = .ok (.astore_n 3, 1) := by decide +kernel
theorem dX7_unit_22 : decode cX7_unit 22 = .ok (.iload_n 2, 1) := by decide +kernel
theorem dX7_unit_23 : decode cX7_unit 23 = .ok (.aload_n 3, 1) := by decide +kernel
theorem dX7_unit_24 : decode cX7_unit 24 = .ok (.getfield 172, 3) := by decide +kernel
theorem dX7_unit_27 : decode cX7_unit 27 = .ok (.iload_n 1, 1) := by decide +kernel
theorem dX7_unit_28 : decode cX7_unit 28 = .ok (.iaload, 1) := by decide +kernel
theorem dX7_unit_29 : decode cX7_unit 29 = .ok (.if_icmp .ge 12, 3) := by decide +kernel
theorem dX7_unit_32 : decode cX7_unit 32 = .ok (.aload_n 3, 1) := by decide +kernel
theorem dX7_unit_33 : decode cX7_unit 33 = .ok (.iload_n 1, 1) := by decide +kernel
theorem dX7_unit_34 : decode cX7_unit 34 = .ok (.iload_n 2, 1) := by decide +kernel
theorem dX7_unit_35 : decode cX7_unit 35 = .ok (.invokevirtual 207, 3) := by decide +kernel
theorem dX7_unit_38 : decode cX7_unit 38 = .ok (.goto 5, 3) := by decide +kernel
theorem dX7_unit_41 : decode cX7_unit 41 = .ok (.bipush (-2), 2) := by decide +kernel
theorem dX7_unit_43 : decode cX7_unit 43 = .ok (.ireturn, 1) := by decide +kernel
theorem dX7_pays_0 : decode cX7_pays 0 = .ok (.aload_n 0, 1) := by decide +kernel
theorem dX7_pays_1 : decode cX7_pays 1 = .ok (.getfield 32, 3) := by decide +kernel
theorem dX7_pays_4 : decode cX7_pays 4 = .ok (.iload_n 1, 1) := by decide +kernel
theorem dX7_pays_5 : decode cX7_pays 5 = .ok (.invokevirtual 104, 3) := by decide +kernel
theorem dX7_pays_8 : decode cX7_pays 8 = .ok (.ifCond .eq 22, 3) := by decide +kernel
theorem dX7_pays_11 : decode cX7_pays 11 = .ok (.iload_n 2, 1) := by decide +kernel
theorem dX7_pays_12 : decode cX7_pays 12 = .ok (.invokestatic 151, 3) := by decide +kernel
theorem dX7_pays_15 : decode cX7_pays 15 = .ok (.ifCond .eq 15, 3) := by decide +kernel
theorem dX7_pays_18 : decode cX7_pays 18 = .ok (.aload_n 0, 1) := by decide +kernel
theorem dX7_pays_19 : decode cX7_pays 19 = .ok (.invokevirtual 154, 3) := by decide +kernel
theorem dX7_pays_22 : decode cX7_pays 22 = .ok (.iload_n 1, 1) := by decide +kernel
theorem dX7_pays_23 : decode cX7_pays 23 = .ok (.iload_n 2, 1) := by decide +kernel
theorem dX7_pays_24 : decode cX7_pays 24 = .ok (.invokevirtual 210, 3) := by decide +kernel
theorem dX7_pays_27 : decode cX7_pays 27 = .ok (.goto 4, 3) := by decide +kernel
theorem dX7_pays_30 : decode cX7_pays 30 = .ok (.iconst (-1), 1) := by decide +kernel
theorem dX7_pays_31 : decode cX7_pays 31 = .ok (.ireturn, 1) := by decide +kernel
theorem dX7_gain_0 : decode cX7_gain 0 = .ok (.aload_n 0, 1) := by decide +kernel
theorem dX7_gain_1 : decode cX7_gain 1 = .ok (.getfield 32, 3) := by decide +kernel
theorem dX7_gain_4 : decode cX7_gain 4 = .ok (.iload_n 1, 1) := by decide +kernel
theorem dX7_gain_5 : decode cX7_gain 5 = .ok (.invokevirtual 104, 3) := by decide +kernel
theorem dX7_gain_8 : decode cX7_gain 8 = .ok (.ifCond .eq 22, 3) := by decide +kernel
theorem dX7_gain_11 : decode cX7_gain 11 = .ok (.iload_n 2, 1) := by decide +kernel
theorem dX7_gain_12 : decode cX7_gain 12 = .ok (.invokestatic 151, 3) := by decide +kernel
theorem dX7_gain_15 : decode cX7_gain 15 = .ok (.ifCond .eq 15, 3) := by decide +kernel
theorem dX7_gain_18 : decode cX7_gain 18 = .ok (.aload_n 0, 1) := by decide +kernel
theorem dX7_gain_19 : decode cX7_gain 19 = .ok (.invokevirtual 154, 3) := by decide +kernel
theorem dX7_gain_22 : decode cX7_gain 22 = .ok (.iload_n 1, 1) := by decide +kernel
theorem dX7_gain_23 : decode cX7_gain 23 = .ok (.iload_n 2, 1) := by decide +kernel
theorem dX7_gain_24 : decode cX7_gain 24 = .ok (.invokevirtual 213, 3) := by decide +kernel
theorem dX7_gain_27 : decode cX7_gain 27 = .ok (.goto 5, 3) := by decide +kernel
theorem dX7_gain_30 : decode cX7_gain 30 = .ok (.ldc 216, 2) := by decide +kernel
theorem dX7_gain_32 : decode cX7_gain 32 = .ok (.ireturn, 1) := by decide +kernel
theorem dX7_at_0 : decode cX7_at 0 = .ok (.aload_n 0, 1) := by decide +kernel
theorem dX7_at_1 : decode cX7_at 1 = .ok (.getfield 32, 3) := by decide +kernel
theorem dX7_at_4 : decode cX7_at 4 = .ok (.iload_n 1, 1) := by decide +kernel
theorem dX7_at_5 : decode cX7_at 5 = .ok (.invokevirtual 104, 3) := by decide +kernel
theorem dX7_at_8 : decode cX7_at 8 = .ok (.ifCond .eq 10, 3) := by decide +kernel
theorem dX7_at_11 : decode cX7_at 11 = .ok (.iload_n 2, 1) := by decide +kernel
theorem dX7_at_12 : decode cX7_at 12 = .ok (.invokestatic 110, 3) := by decide +kernel
theorem dX7_at_15 : decode cX7_at 15 = .ok (.ifCond .ne 5, 3) := by decide +kernel
theorem dX7_at_18 : decode cX7_at 18 = .ok (.iconst (-1), 1) := by decide +kernel
theorem dX7_at_19 : decode cX7_at 19 = .ok (.ireturn, 1) := by decide +kernel
theorem dX7_at_20 : decode cX7_at 20 = .ok (.iload_n 3, 1) := by decide +kernel
theorem dX7_at_21 : decode cX7_at 21 = .ok (.tableswitch 71 0 3 #[31, 41, 51, 61], 31) := by decide +kernel
theorem dX7_at_52 : decode cX7_at 52 = .ok (.aload_n 0, 1) := by decide +kernel
theorem dX7_at_53 : decode cX7_at 53 = .ok (.getfield 32, 3) := by decide +kernel
theorem dX7_at_56 : decode cX7_at 56 = .ok (.iload_n 1, 1) := by decide +kernel
theorem dX7_at_57 : decode cX7_at 57 = .ok (.iload_n 2, 1) := by decide +kernel
theorem dX7_at_58 : decode cX7_at 58 = .ok (.invokevirtual 217, 3) := by decide +kernel
theorem dX7_at_61 : decode cX7_at 61 = .ok (.ireturn, 1) := by decide +kernel
theorem dX7_at_62 : decode cX7_at 62 = .ok (.aload_n 0, 1) := by decide +kernel
theorem dX7_at_63 : decode cX7_at 63 = .ok (.getfield 32, 3) := by decide +kernel
theorem dX7_at_66 : decode cX7_at 66 = .ok (.iload_n 1, 1) := by decide +kernel
theorem dX7_at_67 : decode cX7_at 67 = .ok (.iload_n 2, 1) := by decide +kernel
theorem dX7_at_68 : decode cX7_at 68 = .ok (.invokevirtual 220, 3) := by decide +kernel
theorem dX7_at_71 : decode cX7_at 71 = .ok (.ireturn, 1) := by decide +kernel
theorem dX7_at_72 : decode cX7_at 72 = .ok (.aload_n 0, 1) := by decide +kernel
theorem dX7_at_73 : decode cX7_at 73 = .ok (.getfield 32, 3) := by decide +kernel
theorem dX7_at_76 : decode cX7_at 76 = .ok (.iload_n 1, 1) := by decide +kernel
theorem dX7_at_77 : decode cX7_at 77 = .ok (.iload_n 2, 1) := by decide +kernel
theorem dX7_at_78 : decode cX7_at 78 = .ok (.invokevirtual 223, 3) := by decide +kernel
theorem dX7_at_81 : decode cX7_at 81 = .ok (.ireturn, 1) := by decide +kernel
theorem dX7_at_82 : decode cX7_at 82 = .ok (.aload_n 0, 1) := by decide +kernel
theorem dX7_at_83 : decode cX7_at 83 = .ok (.invokevirtual 154, 3) := by decide +kernel
theorem dX7_at_86 : decode cX7_at 86 = .ok (.iload_n 1, 1) := by decide +kernel
theorem dX7_at_87 : decode cX7_at 87 = .ok (.iload_n 2, 1) := by decide +kernel
theorem dX7_at_88 : decode cX7_at 88 = .ok (.invokevirtual 226, 3) := by decide +kernel
theorem dX7_at_91 : decode cX7_at 91 = .ok (.ireturn, 1) := by decide +kernel
theorem dX7_at_92 : decode cX7_at 92 = .ok (.iconst (-1), 1) := by decide +kernel
theorem dX7_at_93 : decode cX7_at 93 = .ok (.ireturn, 1) := by decide +kernel
theorem dX7_result_0 : decode cX7_result 0 = .ok (.aload_n 0, 1) := by decide +kernel
theorem dX7_result_1 : decode cX7_result 1 = .ok (.invokevirtual 154, 3) := by decide +kernel
theorem dX7_result_4 : decode cX7_result 4 = .ok (.iload_n 1, 1) := by decide +kernel
theorem dX7_result_5 : decode cX7_result 5 = .ok (.invokevirtual 229, 3) := by decide +kernel
theorem dX7_result_8 : decode cX7_result 8 = .ok (.ireturn, 1) := by decide +kernel
theorem dX7_paid_0 : decode cX7_paid 0 = .ok (.iload_n 1, 1) := by decide +kernel
theorem dX7_paid_1 : decode cX7_paid 1 = .ok (.invokestatic 151, 3) := by decide +kernel
theorem dX7_paid_4 : decode cX7_paid 4 = .ok (.ifCond .eq 14, 3) := by decide +kernel
theorem dX7_paid_7 : decode cX7_paid 7 = .ok (.aload_n 0, 1) := by decide +kernel
theorem dX7_paid_8 : decode cX7_paid 8 = .ok (.invokevirtual 154, 3) := by decide +kernel
theorem dX7_paid_11 : decode cX7_paid 11 = .ok (.iload_n 1, 1) := by decide +kernel
theorem dX7_paid_12 : decode cX7_paid 12 = .ok (.invokevirtual 164, 3) := by decide +kernel
theorem dX7_paid_15 : decode cX7_paid 15 = .ok (.goto 4, 3) := by decide +kernel
theorem dX7_paid_18 : decode cX7_paid 18 = .ok (.iconst (-1), 1) := by decide +kernel
theorem dX7_paid_19 : decode cX7_paid 19 = .ok (.ireturn, 1) := by decide +kernel
theorem dX7_wanted_0 : decode cX7_wanted 0 = .ok (.iload_n 1, 1) := by decide +kernel
theorem dX7_wanted_1 : decode cX7_wanted 1 = .ok (.invokestatic 110, 3) := by decide +kernel
theorem dX7_wanted_4 : decode cX7_wanted 4 = .ok (.ifCond .eq 14, 3) := by decide +kernel
theorem dX7_wanted_7 : decode cX7_wanted 7 = .ok (.aload_n 0, 1) := by decide +kernel
theorem dX7_wanted_8 : decode cX7_wanted 8 = .ok (.getfield 32, 3) := by decide +kernel
theorem dX7_wanted_11 : decode cX7_wanted 11 = .ok (.iload_n 1, 1) := by decide +kernel
theorem dX7_wanted_12 : decode cX7_wanted 12 = .ok (.invokevirtual 232, 3) := by decide +kernel
theorem dX7_wanted_15 : decode cX7_wanted 15 = .ok (.goto 4, 3) := by decide +kernel
theorem dX7_wanted_18 : decode cX7_wanted 18 = .ok (.iconst (-1), 1) := by decide +kernel
theorem dX7_wanted_19 : decode cX7_wanted 19 = .ok (.ireturn, 1) := by decide +kernel
theorem dX7_sold_0 : decode cX7_sold 0 = .ok (.aload_n 0, 1) := by decide +kernel
theorem dX7_sold_1 : decode cX7_sold 1 = .ok (.invokevirtual 154, 3) := by decide +kernel
theorem dX7_sold_4 : decode cX7_sold 4 = .ok (.astore_n 3, 1) := by decide +kernel
theorem dX7_sold_5 : decode cX7_sold 5 = .ok (.iload_n 1, 1) := by decide +kernel
theorem dX7_sold_6 : decode cX7_sold 6 = .ok (.ifCond .lt 11, 3) := by decide +kernel
theorem dX7_sold_9 : decode cX7_sold 9 = .ok (.iload_n 1, 1) := by decide +kernel
theorem dX7_sold_10 : decode cX7_sold 10 = .ok (.aload_n 3, 1) := by decide +kernel
theorem dX7_sold_11 : decode cX7_sold 11 = .ok (.getfield 161, 3) := by decide +kernel
theorem dX7_sold_14 : decode cX7_sold 14 = .ok (.if_icmp .lt 5, 3) := by decide +kernel
theorem dX7_sold_17 : decode cX7_sold 17 = .ok (.iconst (-1), 1) := by decide +kernel
theorem dX7_sold_18 : decode cX7_sold 18 = .ok (.ireturn, 1) := by decide +kernel
theorem dX7_sold_19 : decode cX7_sold 19 = .ok (.iload_n 2, 1) := by decide +kernel
theorem dX7_sold_20 : decode cX7_sold 20 = .ok (.lookupswitch 42 #[(0, 28), (1, 35)], 28) := by decide +kernel
theorem dX7_sold_48 : decode cX7_sold 48 = .ok (.aload_n 3, 1) := by decide +kernel
theorem dX7_sold_49 : decode cX7_sold 49 = .ok (.getfield 235, 3) := by decide +kernel
theorem dX7_sold_52 : decode cX7_sold 52 = .ok (.iload_n 1, 1) := by decide +kernel
theorem dX7_sold_53 : decode cX7_sold 53 = .ok (.iaload, 1) := by decide +kernel
theorem dX7_sold_54 : decode cX7_sold 54 = .ok (.ireturn, 1) := by decide +kernel
theorem dX7_sold_55 : decode cX7_sold 55 = .ok (.aload_n 3, 1) := by decide +kernel
theorem dX7_sold_56 : decode cX7_sold 56 = .ok (.getfield 238, 3) := by decide +kernel
theorem dX7_sold_59 : decode cX7_sold 59 = .ok (.iload_n 1, 1) := by decide +kernel
theorem dX7_sold_60 : decode cX7_sold 60 = .ok (.iaload, 1) := by decide +kernel
theorem dX7_sold_61 : decode cX7_sold 61 = .ok (.ireturn, 1) := by decide +kernel
theorem dX7_sold_62 : decode cX7_sold 62 = .ok (.iconst (-1), 1) := by decide +kernel
theorem dX7_sold_63 : decode cX7_sold 63 = .ok (.ireturn, 1) := by decide +kernel
theorem dX7_worth_0 : decode cX7_worth 0 = .ok (.iload_n 1, 1) := by decide +kernel
theorem dX7_worth_1 : decode cX7_worth 1 = .ok (.ifCond .lt 24, 3) := by decide +kernel
theorem dX7_worth_4 : decode cX7_worth 4 = .ok (.iload_n 1, 1) := by decide +kernel
theorem dX7_worth_5 : decode cX7_worth 5 = .ok (.aload_n 0, 1) := by decide +kernel
theorem dX7_worth_6 : decode cX7_worth 6 = .ok (.getfield 32, 3) := by decide +kernel
theorem dX7_worth_9 : decode cX7_worth 9 = .ok (.invokevirtual 241, 3) := by decide +kernel
theorem dX7_worth_12 : decode cX7_worth 12 = .ok (.if_icmp .gt 13, 3) := by decide +kernel
theorem dX7_worth_15 : decode cX7_worth 15 = .ok (.iload_n 2, 1) := by decide +kernel
theorem dX7_worth_16 : decode cX7_worth 16 = .ok (.ifCond .lt 9, 3) := by decide +kernel
theorem dX7_worth_19 : decode cX7_worth 19 = .ok (.iload_n 2, 1) := by decide +kernel
theorem dX7_worth_20 : decode cX7_worth 20 = .ok (.bipush 30, 2) := by decide +kernel
theorem dX7_worth_22 : decode cX7_worth 22 = .ok (.if_icmp .le 5, 3) := by decide +kernel
theorem dX7_worth_25 : decode cX7_worth 25 = .ok (.iconst (-1), 1) := by decide +kernel
theorem dX7_worth_26 : decode cX7_worth 26 = .ok (.ireturn, 1) := by decide +kernel
theorem dX7_worth_27 : decode cX7_worth 27 = .ok (.aload_n 0, 1) := by decide +kernel
theorem dX7_worth_28 : decode cX7_worth 28 = .ok (.getfield 32, 3) := by decide +kernel
theorem dX7_worth_31 : decode cX7_worth 31 = .ok (.iload_n 1, 1) := by decide +kernel
theorem dX7_worth_32 : decode cX7_worth 32 = .ok (.iload_n 2, 1) := by decide +kernel
theorem dX7_worth_33 : decode cX7_worth 33 = .ok (.invokevirtual 244, 3) := by decide +kernel
theorem dX7_worth_36 : decode cX7_worth 36 = .ok (.ireturn, 1) := by decide +kernel
theorem dX7_clinch_0 : decode cX7_clinch 0 = .ok (.aload_n 0, 1) := by decide +kernel
theorem dX7_clinch_1 : decode cX7_clinch 1 = .ok (.getfield 32, 3) := by decide +kernel
theorem dX7_clinch_4 : decode cX7_clinch 4 = .ok (.iload_n 1, 1) := by decide +kernel
theorem dX7_clinch_5 : decode cX7_clinch 5 = .ok (.invokevirtual 104, 3) := by decide +kernel
theorem dX7_clinch_8 : decode cX7_clinch 8 = .ok (.ifCond .eq 7, 3) := by decide +kernel
theorem dX7_clinch_11 : decode cX7_clinch 11 = .ok (.iload_n 2, 1) := by decide +kernel
theorem dX7_clinch_12 : decode cX7_clinch 12 = .ok (.ifCond .ge 5, 3) := by decide +kernel
theorem dX7_clinch_15 : decode cX7_clinch 15 = .ok (.iconst (-1), 1) := by decide +kernel
theorem dX7_clinch_16 : decode cX7_clinch 16 = .ok (.ireturn, 1) := by decide +kernel
theorem dX7_clinch_17 : decode cX7_clinch 17 = .ok (.iload_n 3, 1) := by decide +kernel
theorem dX7_clinch_18 : decode cX7_clinch 18 = .ok (.lookupswitch 46 #[(0, 26), (1, 36)], 26) := by decide +kernel
theorem dX7_clinch_44 : decode cX7_clinch 44 = .ok (.aload_n 0, 1) := by decide +kernel
theorem dX7_clinch_45 : decode cX7_clinch 45 = .ok (.invokevirtual 154, 3) := by decide +kernel
theorem dX7_clinch_48 : decode cX7_clinch 48 = .ok (.iload_n 1, 1) := by decide +kernel
theorem dX7_clinch_49 : decode cX7_clinch 49 = .ok (.iload_n 2, 1) := by decide +kernel
theorem dX7_clinch_50 : decode cX7_clinch 50 = .ok (.invokevirtual 247, 3) := by decide +kernel
theorem dX7_clinch_53 : decode cX7_clinch 53 = .ok (.ireturn, 1) := by decide +kernel
theorem dX7_clinch_54 : decode cX7_clinch 54 = .ok (.aload_n 0, 1) := by decide +kernel
theorem dX7_clinch_55 : decode cX7_clinch 55 = .ok (.invokevirtual 154, 3) := by decide +kernel
theorem dX7_clinch_58 : decode cX7_clinch 58 = .ok (.iload_n 1, 1) := by decide +kernel
theorem dX7_clinch_59 : decode cX7_clinch 59 = .ok (.iload_n 2, 1) := by decide +kernel
theorem dX7_clinch_60 : decode cX7_clinch 60 = .ok (.invokevirtual 250, 3) := by decide +kernel
theorem dX7_clinch_63 : decode cX7_clinch 63 = .ok (.ireturn, 1) := by decide +kernel
theorem dX7_clinch_64 : decode cX7_clinch 64 = .ok (.iconst (-1), 1) := by decide +kernel
theorem dX7_clinch_65 : decode cX7_clinch 65 = .ok (.ireturn, 1) := by decide +kernel
theorem dX7_dearest_0 : decode cX7_dearest 0 = .ok (.iload_n 1, 1) := by decide +kernel
theorem dX7_dearest_1 : decode cX7_dearest 1 = .ok (.invokestatic 151, 3) := by decide +kernel
theorem dX7_dearest_4 : decode cX7_dearest 4 = .ok (.ifCond .ne 5, 3) := by decide +kernel
theorem dX7_dearest_7 : decode cX7_dearest 7 = .ok (.iconst (-1), 1) := by decide +kernel
theorem dX7_dearest_8 : decode cX7_dearest 8 = .ok (.ireturn, 1) := by decide +kernel
theorem dX7_dearest_9 : decode cX7_dearest 9 = .ok (.aload_n 0, 1) := by decide +kernel
theorem dX7_dearest_10 : decode cX7_dearest 10 = .ok (.invokevirtual 154, 3) := by decide +kernel
theorem dX7_dearest_13 : decode cX7_dearest 13 = .ok (.astore_n 2, 1) := by decide +kernel
theorem dX7_dearest_14 : decode cX7_dearest 14 = .ok (.bipush (-2), 2) := by decide +kernel
theorem dX7_dearest_16 : decode cX7_dearest 16 = .ok (.istore_n 3, 1) := by decide +kernel
theorem dX7_dearest_17 : decode cX7_dearest 17 = .ok (.ldc 253, 2) := by decide +kernel
theorem dX7_dearest_19 : decode cX7_dearest 19 = .ok (.istore 4, 2) := by decide +kernel
theorem dX7_dearest_21 : decode cX7_dearest 21 = .ok (.iconst 0, 1) := by decide +kernel
theorem dX7_dearest_22 : decode cX7_dearest 22 = .ok (.istore 5, 2) := by decide +kernel
theorem dX7_dearest_24 : decode cX7_dearest 24 = .ok (.iload 5, 2) := by decide +kernel
theorem dX7_dearest_26 : decode cX7_dearest 26 = .ok (.aload_n 0, 1) := by decide +kernel
theorem dX7_dearest_27 : decode cX7_dearest 27 = .ok (.getfield 32, 3) := by decide +kernel
theorem dX7_dearest_30 : decode cX7_dearest 30 = .ok (.getfield 94, 3) := by decide +kernel
theorem dX7_dearest_33 : decode cX7_dearest 33 = .ok (.if_icmp .ge 32, 3) := by decide +kernel
theorem dX7_dearest_36 : decode cX7_dearest 36 = .ok (.aload_n 2, 1) := by decide +kernel
theorem dX7_dearest_37 : decode cX7_dearest 37 = .ok (.iload 5, 2) := by decide +kernel
theorem dX7_dearest_39 : decode cX7_dearest 39 = .ok (.iload_n 1, 1) := by decide +kernel
theorem dX7_dearest_40 : decode cX7_dearest 40 = .ok (.invokevirtual 210, 3) := by decide +kernel
theorem dX7_dearest_43 : decode cX7_dearest 43 = .ok (.istore 6, 2) := by decide +kernel
theorem dX7_dearest_45 : decode cX7_dearest 45 = .ok (.iload 6, 2) := by decide +kernel
theorem dX7_dearest_47 : decode cX7_dearest 47 = .ok (.iload 4, 2) := by decide +kernel
theorem dX7_dearest_49 : decode cX7_dearest 49 = .ok (.if_icmp .le 10, 3) := by decide +kernel
theorem dX7_dearest_52 : decode cX7_dearest 52 = .ok (.iload 6, 2) := by decide +kernel
theorem dX7_dearest_54 : decode cX7_dearest 54 = .ok (.istore 4, 2) := by decide +kernel
theorem dX7_dearest_56 : decode cX7_dearest 56 = .ok (.iload 5, 2) := by decide +kernel
theorem dX7_dearest_58 : decode cX7_dearest 58 = .ok (.istore_n 3, 1) := by decide +kernel
theorem dX7_dearest_59 : decode cX7_dearest 59 = .ok (.iinc 5 1, 3) := by decide +kernel
theorem dX7_dearest_62 : decode cX7_dearest 62 = .ok (.goto (-38), 3) := by decide +kernel
theorem dX7_dearest_65 : decode cX7_dearest 65 = .ok (.iload_n 3, 1) := by decide +kernel
theorem dX7_dearest_66 : decode cX7_dearest 66 = .ok (.ireturn, 1) := by decide +kernel
theorem dX7_perUnit_0 : decode cX7_perUnit 0 = .ok (.aload_n 0, 1) := by decide +kernel
theorem dX7_perUnit_1 : decode cX7_perUnit 1 = .ok (.getfield 32, 3) := by decide +kernel
theorem dX7_perUnit_4 : decode cX7_perUnit 4 = .ok (.iload_n 1, 1) := by decide +kernel
theorem dX7_perUnit_5 : decode cX7_perUnit 5 = .ok (.invokevirtual 104, 3) := by decide +kernel
theorem dX7_perUnit_8 : decode cX7_perUnit 8 = .ok (.ifCond .eq 10, 3) := by decide +kernel
theorem dX7_perUnit_11 : decode cX7_perUnit 11 = .ok (.iload_n 2, 1) := by decide +kernel
theorem dX7_perUnit_12 : decode cX7_perUnit 12 = .ok (.invokestatic 151, 3) := by decide +kernel
theorem dX7_perUnit_15 : decode cX7_perUnit 15 = .ok (.ifCond .ne 5, 3) := by decide +kernel
theorem dX7_perUnit_18 : decode cX7_perUnit 18 = .ok (.iconst (-1), 1) := by decide +kernel
theorem dX7_perUnit_19 : decode cX7_perUnit 19 = .ok (.ireturn, 1) := by decide +kernel
theorem dX7_perUnit_20 : decode cX7_perUnit 20 = .ok (.aload_n 0, 1) := by decide +kernel
theorem dX7_perUnit_21 : decode cX7_perUnit 21 = .ok (.invokevirtual 154, 3) := by decide +kernel
theorem dX7_perUnit_24 : decode cX7_perUnit 24 = .ok (.astore_n 3, 1) := by decide +kernel
theorem dX7_perUnit_25 : decode cX7_perUnit 25 = .ok (.aload_n 3, 1) := by decide +kernel
theorem dX7_perUnit_26 : decode cX7_perUnit 26 = .ok (.getfield 172, 3) := by decide +kernel
theorem dX7_perUnit_29 : decode cX7_perUnit 29 = .ok (.iload_n 1, 1) := by decide +kernel
theorem dX7_perUnit_30 : decode cX7_perUnit 30 = .ok (.iaload, 1) := by decide +kernel
theorem dX7_perUnit_31 : decode cX7_perUnit 31 = .ok (.istore 4, 2) := by decide +kernel
theorem dX7_perUnit_33 : decode cX7_perUnit 33 = .ok (.iload 4, 2) := by decide +kernel
theorem dX7_perUnit_35 : decode cX7_perUnit 35 = .ok (.ifCond .gt 8, 3) := by decide +kernel
theorem dX7_perUnit_38 : decode cX7_perUnit 38 = .ok (.bipush (-2), 2) := by decide +kernel
theorem dX7_perUnit_40 : decode cX7_perUnit 40 = .ok (.goto 12, 3) := by decide +kernel
theorem dX7_perUnit_43 : decode cX7_perUnit 43 = .ok (.aload_n 3, 1) := by decide +kernel
theorem dX7_perUnit_44 : decode cX7_perUnit 44 = .ok (.iload_n 1, 1) := by decide +kernel
theorem dX7_perUnit_45 : decode cX7_perUnit 45 = .ok (.iload_n 2, 1) := by decide +kernel
theorem dX7_perUnit_46 : decode cX7_perUnit 46 = .ok (.invokevirtual 210, 3) := by decide +kernel
theorem dX7_perUnit_49 : decode cX7_perUnit 49 = .ok (.iload 4, 2) := by decide +kernel
theorem dX7_perUnit_51 : decode cX7_perUnit 51 = .ok (.idiv, 1) := by decide +kernel
theorem dX7_perUnit_52 : decode cX7_perUnit 52 = .ok (.ireturn, 1) := by decide +kernel
theorem dX7_alike_0 : decode cX7_alike 0 = .ok (.aload_n 0, 1) := by decide +kernel
theorem dX7_alike_1 : decode cX7_alike 1 = .ok (.getfield 32, 3) := by decide +kernel
theorem dX7_alike_4 : decode cX7_alike 4 = .ok (.iload_n 1, 1) := by decide +kernel
theorem dX7_alike_5 : decode cX7_alike 5 = .ok (.invokevirtual 104, 3) := by decide +kernel
theorem dX7_alike_8 : decode cX7_alike 8 = .ok (.ifCond .eq 14, 3) := by decide +kernel
theorem dX7_alike_11 : decode cX7_alike 11 = .ok (.aload_n 0, 1) := by decide +kernel
theorem dX7_alike_12 : decode cX7_alike 12 = .ok (.getfield 32, 3) := by decide +kernel
theorem dX7_alike_15 : decode cX7_alike 15 = .ok (.iload_n 2, 1) := by decide +kernel
theorem dX7_alike_16 : decode cX7_alike 16 = .ok (.invokevirtual 104, 3) := by decide +kernel
theorem dX7_alike_19 : decode cX7_alike 19 = .ok (.ifCond .ne 5, 3) := by decide +kernel
theorem dX7_alike_22 : decode cX7_alike 22 = .ok (.iconst (-1), 1) := by decide +kernel
theorem dX7_alike_23 : decode cX7_alike 23 = .ok (.ireturn, 1) := by decide +kernel
theorem dX7_alike_24 : decode cX7_alike 24 = .ok (.aload_n 0, 1) := by decide +kernel
theorem dX7_alike_25 : decode cX7_alike 25 = .ok (.getfield 32, 3) := by decide +kernel
theorem dX7_alike_28 : decode cX7_alike 28 = .ok (.iload_n 1, 1) := by decide +kernel
theorem dX7_alike_29 : decode cX7_alike 29 = .ok (.iload_n 2, 1) := by decide +kernel
theorem dX7_alike_30 : decode cX7_alike 30 = .ok (.invokevirtual 254, 3) := by decide +kernel
theorem dX7_alike_33 : decode cX7_alike 33 = .ok (.ifCond .eq 7, 3) := by decide +kernel
theorem dX7_alike_36 : decode cX7_alike 36 = .ok (.iconst 1, 1) := by decide +kernel
theorem dX7_alike_37 : decode cX7_alike 37 = .ok (.goto 4, 3) := by decide +kernel
theorem dX7_alike_40 : decode cX7_alike 40 = .ok (.iconst 0, 1) := by decide +kernel
theorem dX7_alike_41 : decode cX7_alike 41 = .ok (.ireturn, 1) := by decide +kernel
theorem dX7_ranked_0 : decode cX7_ranked 0 = .ok (.iload_n 1, 1) := by decide +kernel
theorem dX7_ranked_1 : decode cX7_ranked 1 = .ok (.ifCond .lt 14, 3) := by decide +kernel
theorem dX7_ranked_4 : decode cX7_ranked 4 = .ok (.iload_n 1, 1) := by decide +kernel
theorem dX7_ranked_5 : decode cX7_ranked 5 = .ok (.aload_n 0, 1) := by decide +kernel
theorem dX7_ranked_6 : decode cX7_ranked 6 = .ok (.getfield 32, 3) := by decide +kernel
theorem dX7_ranked_9 : decode cX7_ranked 9 = .ok (.invokevirtual 257, 3) := by decide +kernel
theorem dX7_ranked_12 : decode cX7_ranked 12 = .ok (.if_icmp .lt 5, 3) := by decide +kernel
theorem dX7_ranked_15 : decode cX7_ranked 15 = .ok (.iconst (-1), 1) := by decide +kernel
theorem dX7_ranked_16 : decode cX7_ranked 16 = .ok (.ireturn, 1) := by decide +kernel
theorem dX7_ranked_17 : decode cX7_ranked 17 = .ok (.iload_n 2, 1) := by decide +kernel
theorem dX7_ranked_18 : decode cX7_ranked 18 = .ok (.lookupswitch 44 #[(0, 26), (1, 35)], 26) := by decide +kernel
theorem dX7_ranked_44 : decode cX7_ranked 44 = .ok (.aload_n 0, 1) := by decide +kernel
theorem dX7_ranked_45 : decode cX7_ranked 45 = .ok (.getfield 32, 3) := by decide +kernel
theorem dX7_ranked_48 : decode cX7_ranked 48 = .ok (.iload_n 1, 1) := by decide +kernel
theorem dX7_ranked_49 : decode cX7_ranked 49 = .ok (.invokevirtual 260, 3) := by decide +kernel
theorem dX7_ranked_52 : decode cX7_ranked 52 = .ok (.ireturn, 1) := by decide +kernel
theorem dX7_ranked_53 : decode cX7_ranked 53 = .ok (.aload_n 0, 1) := by decide +kernel
theorem dX7_ranked_54 : decode cX7_ranked 54 = .ok (.getfield 32, 3) := by decide +kernel
theorem dX7_ranked_57 : decode cX7_ranked 57 = .ok (.iload_n 1, 1) := by decide +kernel
theorem dX7_ranked_58 : decode cX7_ranked 58 = .ok (.invokevirtual 263, 3) := by decide +kernel
theorem dX7_ranked_61 : decode cX7_ranked 61 = .ok (.ireturn, 1) := by decide +kernel
theorem dX7_ranked_62 : decode cX7_ranked 62 = .ok (.iconst (-1), 1) := by decide +kernel
theorem dX7_ranked_63 : decode cX7_ranked 63 = .ok (.ireturn, 1) := by decide +kernel
theorem dX7_priceFor_0 : decode cX7_priceFor 0 = .ok (.iload_n 1, 1) := by decide +kernel
theorem dX7_priceFor_1 : decode cX7_priceFor 1 = .ok (.ifCond .ge 5, 3) := by decide +kernel
theorem dX7_priceFor_4 : decode cX7_priceFor 4 = .ok (.iconst (-1), 1) := by decide +kernel
theorem dX7_priceFor_5 : decode cX7_priceFor 5 = .ok (.ireturn, 1) := by decide +kernel
theorem dX7_priceFor_6 : decode cX7_priceFor 6 = .ok (.iconst 0, 1) := by decide +kernel
theorem dX7_priceFor_7 : decode cX7_priceFor 7 = .ok (.istore_n 2, 1) := by decide +kernel
theorem dX7_priceFor_8 : decode cX7_priceFor 8 = .ok (.iload_n 2, 1) := by decide +kernel
theorem dX7_priceFor_9 : decode cX7_priceFor 9 = .ok (.bipush 99, 2) := by decide +kernel
theorem dX7_priceFor_11 : decode cX7_priceFor 11 = .ok (.if_icmp .ge 23, 3) := by decide +kernel
theorem dX7_priceFor_14 : decode cX7_priceFor 14 = .ok (.aload_n 0, 1) := by decide +kernel
theorem dX7_priceFor_15 : decode cX7_priceFor 15 = .ok (.getfield 32, 3) := by decide +kernel
theorem dX7_priceFor_18 : decode cX7_priceFor 18 = .ok (.iload_n 2, 1) := by decide +kernel
theorem dX7_priceFor_19 : decode cX7_priceFor 19 = .ok (.invokevirtual 232, 3) := by decide +kernel
theorem dX7_priceFor_22 : decode cX7_priceFor 22 = .ok (.iload_n 1, 1) := by decide +kernel
theorem dX7_priceFor_23 : decode cX7_priceFor 23 = .ok (.if_icmp .gt 5, 3) := by decide +kernel
theorem dX7_priceFor_26 : decode cX7_priceFor 26 = .ok (.iload_n 2, 1) := by decide +kernel
theorem dX7_priceFor_27 : decode cX7_priceFor 27 = .ok (.ireturn, 1) := by decide +kernel
theorem dX7_priceFor_28 : decode cX7_priceFor 28 = .ok (.iinc 2 1, 3) := by decide +kernel
theorem dX7_priceFor_31 : decode cX7_priceFor 31 = .ok (.goto (-23), 3) := by decide +kernel
theorem dX7_priceFor_34 : decode cX7_priceFor 34 = .ok (.bipush 99, 2) := by decide +kernel
theorem dX7_priceFor_36 : decode cX7_priceFor 36 = .ok (.ireturn, 1) := by decide +kernel
theorem dX7_step_0 : decode cX7_step 0 = .ok (.iload_n 1, 1) := by decide +kernel
theorem dX7_step_1 : decode cX7_step 1 = .ok (.ifCond .ge 7, 3) := by decide +kernel
theorem dX7_step_4 : decode cX7_step 4 = .ok (.iconst (-1), 1) := by decide +kernel
theorem dX7_step_5 : decode cX7_step 5 = .ok (.goto 11, 3) := by decide +kernel
theorem dX7_step_8 : decode cX7_step 8 = .ok (.aload_n 0, 1) := by decide +kernel
theorem dX7_step_9 : decode cX7_step 9 = .ok (.getfield 32, 3) := by decide +kernel
theorem dX7_step_12 : decode cX7_step 12 = .ok (.iload_n 1, 1) := by decide +kernel
theorem dX7_step_13 : decode cX7_step 13 = .ok (.invokevirtual 266, 3) := by decide +kernel
theorem dX7_step_16 : decode cX7_step 16 = .ok (.istore_n 3, 1) := by decide +kernel
theorem dX7_step_17 : decode cX7_step 17 = .ok (.iload_n 3, 1) := by decide +kernel
theorem dX7_step_18 : decode cX7_step 18 = .ok (.iconst (-1), 1) := by decide +kernel
theorem dX7_step_19 : decode cX7_step 19 = .ok (.if_icmp .ne 5, 3) := by decide +kernel
theorem dX7_step_22 : decode cX7_step 22 = .ok (.iconst (-1), 1) := by decide +kernel
theorem dX7_step_23 : decode cX7_step 23 = .ok (.ireturn, 1) := by decide +kernel
theorem dX7_step_24 : decode cX7_step 24 = .ok (.iload_n 2, 1) := by decide +kernel
theorem dX7_step_25 : decode cX7_step 25 = .ok (.tableswitch 47 0 2 #[27, 29, 38], 27) := by decide +kernel
theorem dX7_step_52 : decode cX7_step 52 = .ok (.iload_n 3, 1) := by decide +kernel
theorem dX7_step_53 : decode cX7_step 53 = .ok (.ireturn, 1) := by decide +kernel
theorem dX7_step_54 : decode cX7_step 54 = .ok (.aload_n 0, 1) := by decide +kernel
theorem dX7_step_55 : decode cX7_step 55 = .ok (.getfield 32, 3) := by decide +kernel
theorem dX7_step_58 : decode cX7_step 58 = .ok (.iload_n 3, 1) := by decide +kernel
theorem dX7_step_59 : decode cX7_step 59 = .ok (.invokevirtual 232, 3) := by decide +kernel
theorem dX7_step_62 : decode cX7_step 62 = .ok (.ireturn, 1) := by decide +kernel
theorem dX7_step_63 : decode cX7_step 63 = .ok (.aload_n 0, 1) := by decide +kernel
theorem dX7_step_64 : decode cX7_step 64 = .ok (.getfield 32, 3) := by decide +kernel
theorem dX7_step_67 : decode cX7_step 67 = .ok (.iload_n 3, 1) := by decide +kernel
theorem dX7_step_68 : decode cX7_step 68 = .ok (.invokevirtual 269, 3) := by decide +kernel
theorem dX7_step_71 : decode cX7_step 71 = .ok (.ireturn, 1) := by decide +kernel
theorem dX7_step_72 : decode cX7_step 72 = .ok (.iconst (-1), 1) := by decide +kernel
theorem dX7_step_73 : decode cX7_step 73 = .ok (.ireturn, 1) := by decide +kernel
theorem dX7_envies_0 : decode cX7_envies 0 = .ok (.aload_n 0, 1) := by decide +kernel
theorem dX7_envies_1 : decode cX7_envies 1 = .ok (.getfield 32, 3) := by decide +kernel
theorem dX7_envies_4 : decode cX7_envies 4 = .ok (.iload_n 1, 1) := by decide +kernel
theorem dX7_envies_5 : decode cX7_envies 5 = .ok (.invokevirtual 104, 3) := by decide +kernel
theorem dX7_envies_8 : decode cX7_envies 8 = .ok (.ifCond .eq 10, 3) := by decide +kernel
theorem dX7_envies_11 : decode cX7_envies 11 = .ok (.iload_n 2, 1) := by decide +kernel
theorem dX7_envies_12 : decode cX7_envies 12 = .ok (.invokestatic 151, 3) := by decide +kernel
theorem dX7_envies_15 : decode cX7_envies 15 = .ok (.ifCond .ne 5, 3) := by decide +kernel
theorem dX7_envies_18 : decode cX7_envies 18 = .ok (.iconst (-1), 1) := by decide +kernel
theorem dX7_envies_19 : decode cX7_envies 19 = .ok (.ireturn, 1) := by decide +kernel
theorem dX7_envies_20 : decode cX7_envies 20 = .ok (.aload_n 0, 1) := by decide +kernel
theorem dX7_envies_21 : decode cX7_envies 21 = .ok (.invokevirtual 154, 3) := by decide +kernel
theorem dX7_envies_24 : decode cX7_envies 24 = .ok (.astore_n 3, 1) := by decide +kernel
theorem dX7_envies_25 : decode cX7_envies 25 = .ok (.aload_n 3, 1) := by decide +kernel
theorem dX7_envies_26 : decode cX7_envies 26 = .ok (.iload_n 1, 1) := by decide +kernel
theorem dX7_envies_27 : decode cX7_envies 27 = .ok (.iload_n 2, 1) := by decide +kernel
theorem dX7_envies_28 : decode cX7_envies 28 = .ok (.invokevirtual 213, 3) := by decide +kernel
theorem dX7_envies_31 : decode cX7_envies 31 = .ok (.istore 4, 2) := by decide +kernel
theorem dX7_envies_33 : decode cX7_envies 33 = .ok (.iconst 0, 1) := by decide +kernel
theorem dX7_envies_34 : decode cX7_envies 34 = .ok (.istore 5, 2) := by decide +kernel
theorem dX7_envies_36 : decode cX7_envies 36 = .ok (.iload 5, 2) := by decide +kernel
theorem dX7_envies_38 : decode cX7_envies 38 = .ok (.aload_n 0, 1) := by decide +kernel
theorem dX7_envies_39 : decode cX7_envies 39 = .ok (.getfield 32, 3) := by decide +kernel
theorem dX7_envies_42 : decode cX7_envies 42 = .ok (.getfield 94, 3) := by decide +kernel
theorem dX7_envies_45 : decode cX7_envies 45 = .ok (.if_icmp .ge 55, 3) := by decide +kernel
theorem dX7_envies_48 : decode cX7_envies 48 = .ok (.aload_n 3, 1) := by decide +kernel
theorem dX7_envies_49 : decode cX7_envies 49 = .ok (.getfield 172, 3) := by decide +kernel
theorem dX7_envies_52 : decode cX7_envies 52 = .ok (.iload 5, 2) := by decide +kernel
theorem dX7_envies_54 : decode cX7_envies 54 = .ok (.iaload, 1) := by decide +kernel
theorem dX7_envies_55 : decode cX7_envies 55 = .ok (.aload_n 0, 1) := by decide +kernel
theorem dX7_envies_56 : decode cX7_envies 56 = .ok (.getfield 32, 3) := by decide +kernel
theorem dX7_envies_59 : decode cX7_envies 59 = .ok (.iload_n 1, 1) := by decide +kernel
theorem dX7_envies_60 : decode cX7_envies 60 = .ok (.invokevirtual 272, 3) := by decide +kernel
theorem dX7_envies_63 : decode cX7_envies 63 = .ok (.invokestatic 275, 3) := by decide +kernel
theorem dX7_envies_66 : decode cX7_envies 66 = .ok (.istore 6, 2) := by decide +kernel
theorem dX7_envies_68 : decode cX7_envies 68 = .ok (.aload_n 0, 1) := by decide +kernel
theorem dX7_envies_69 : decode cX7_envies 69 = .ok (.getfield 32, 3) := by decide +kernel
theorem dX7_envies_72 : decode cX7_envies 72 = .ok (.iload_n 1, 1) := by decide +kernel
theorem dX7_envies_73 : decode cX7_envies 73 = .ok (.iload 6, 2) := by decide +kernel
theorem dX7_envies_75 : decode cX7_envies 75 = .ok (.invokevirtual 280, 3) := by decide +kernel
theorem dX7_envies_78 : decode cX7_envies 78 = .ok (.aload_n 3, 1) := by decide +kernel
theorem dX7_envies_79 : decode cX7_envies 79 = .ok (.iload 5, 2) := by decide +kernel
theorem dX7_envies_81 : decode cX7_envies 81 = .ok (.iload_n 2, 1) := by decide +kernel
theorem dX7_envies_82 : decode cX7_envies 82 = .ok (.invokevirtual 210, 3) := by decide +kernel
theorem dX7_envies_85 : decode cX7_envies 85 = .ok (.isub, 1) := by decide +kernel
theorem dX7_envies_86 : decode cX7_envies 86 = .ok (.iload 4, 2) := by decide +kernel
theorem dX7_envies_88 : decode cX7_envies 88 = .ok (.if_icmp .le 6, 3) := by decide +kernel
theorem dX7_envies_91 : decode cX7_envies 91 = .ok (.iload 5, 2) := by decide +kernel
theorem dX7_envies_93 : decode cX7_envies 93 = .ok (.ireturn, 1) := by decide +kernel
theorem dX7_envies_94 : decode cX7_envies 94 = .ok (.iinc 5 1, 3) := by decide +kernel
theorem dX7_envies_97 : decode cX7_envies 97 = .ok (.goto (-61), 3) := by decide +kernel
theorem dX7_envies_100 : decode cX7_envies 100 = .ok (.bipush (-2), 2) := by decide +kernel
theorem dX7_envies_102 : decode cX7_envies 102 = .ok (.ireturn, 1) := by decide +kernel
theorem dX7_blocks_0 : decode cX7_blocks 0 = .ok (.iload_n 1, 1) := by decide +kernel
theorem dX7_blocks_1 : decode cX7_blocks 1 = .ok (.invokestatic 151, 3) := by decide +kernel
theorem dX7_blocks_4 : decode cX7_blocks 4 = .ok (.ifCond .ne 5, 3) := by decide +kernel
theorem dX7_blocks_7 : decode cX7_blocks 7 = .ok (.iconst (-1), 1) := by decide +kernel
theorem dX7_blocks_8 : decode cX7_blocks 8 = .ok (.ireturn, 1) := by decide +kernel
theorem dX7_blocks_9 : decode cX7_blocks 9 = .ok (.aload_n 0, 1) := by decide +kernel
theorem dX7_blocks_10 : decode cX7_blocks 10 = .ok (.invokevirtual 154, 3) := by decide +kernel
theorem dX7_blocks_13 : decode cX7_blocks 13 = .ok (.astore_n 2, 1) := by decide +kernel
theorem dX7_blocks_14 : decode cX7_blocks 14 = .ok (.aload_n 2, 1) := by decide +kernel
theorem dX7_blocks_15 : decode cX7_blocks 15 = .ok (.iload_n 1, 1) := by decide +kernel
theorem dX7_blocks_16 : decode cX7_blocks 16 = .ok (.invokevirtual 164, 3) := by decide +kernel
theorem dX7_blocks_19 : decode cX7_blocks 19 = .ok (.aload_n 0, 1) := by decide +kernel
theorem dX7_blocks_20 : decode cX7_blocks 20 = .ok (.getfield 32, 3) := by decide +kernel
theorem dX7_blocks_23 : decode cX7_blocks 23 = .ok (.getfield 194, 3) := by decide +kernel
theorem dX7_blocks_26 : decode cX7_blocks 26 = .ok (.aload_n 2, 1) := by decide +kernel
theorem dX7_blocks_27 : decode cX7_blocks 27 = .ok (.invokevirtual 283, 3) := by decide +kernel
theorem dX7_blocks_30 : decode cX7_blocks 30 = .ok (.imul, 1) := by decide +kernel
theorem dX7_blocks_31 : decode cX7_blocks 31 = .ok (.iadd, 1) := by decide +kernel
theorem dX7_blocks_32 : decode cX7_blocks 32 = .ok (.istore_n 3, 1) := by decide +kernel
theorem dX7_blocks_33 : decode cX7_blocks 33 = .ok (.aload_n 0, 1) := by decide +kernel
theorem dX7_blocks_34 : decode cX7_blocks 34 = .ok (.getfield 32, 3) := by decide +kernel
theorem dX7_blocks_37 : decode cX7_blocks 37 = .ok (.invokevirtual 241, 3) := by decide +kernel
theorem dX7_blocks_40 : decode cX7_blocks 40 = .ok (.istore 4, 2) := by decide +kernel
theorem dX7_blocks_42 : decode cX7_blocks 42 = .ok (.aload_n 2, 1) := by decide +kernel
theorem dX7_blocks_43 : decode cX7_blocks 43 = .ok (.iload_n 1, 1) := by decide +kernel
theorem dX7_blocks_44 : decode cX7_blocks 44 = .ok (.invokevirtual 286, 3) := by decide +kernel
theorem dX7_blocks_47 : decode cX7_blocks 47 = .ok (.iconst 1, 1) := by decide +kernel
theorem dX7_blocks_48 : decode cX7_blocks 48 = .ok (.istore 5, 2) := by decide +kernel
theorem dX7_blocks_50 : decode cX7_blocks 50 = .ok (.iload 5, 2) := by decide +kernel
theorem dX7_blocks_52 : decode cX7_blocks 52 = .ok (.iload 4, 2) := by decide +kernel
theorem dX7_blocks_54 : decode cX7_blocks 54 = .ok (.if_icmp .gt 39, 3) := by decide +kernel
theorem dX7_blocks_57 : decode cX7_blocks 57 = .ok (.aload_n 0, 1) := by decide +kernel
theorem dX7_blocks_58 : decode cX7_blocks 58 = .ok (.getfield 32, 3) := by decide +kernel
theorem dX7_blocks_61 : decode cX7_blocks 61 = .ok (.iload 5, 2) := by decide +kernel
theorem dX7_blocks_63 : decode cX7_blocks 63 = .ok (.aload_n 0, 1) := by decide +kernel
theorem dX7_blocks_64 : decode cX7_blocks 64 = .ok (.getfield 32, 3) := by decide +kernel
theorem dX7_blocks_67 : decode cX7_blocks 67 = .ok (.getfield 191, 3) := by decide +kernel
theorem dX7_blocks_70 : decode cX7_blocks 70 = .ok (.invokevirtual 244, 3) := by decide +kernel
theorem dX7_blocks_73 : decode cX7_blocks 73 = .ok (.iload_n 3, 1) := by decide +kernel
theorem dX7_blocks_74 : decode cX7_blocks 74 = .ok (.aload_n 2, 1) := by decide +kernel
theorem dX7_blocks_75 : decode cX7_blocks 75 = .ok (.iload 5, 2) := by decide +kernel
theorem dX7_blocks_77 : decode cX7_blocks 77 = .ok (.invokevirtual 289, 3) := by decide +kernel
theorem dX7_blocks_80 : decode cX7_blocks 80 = .ok (.iadd, 1) := by decide +kernel
theorem dX7_blocks_81 : decode cX7_blocks 81 = .ok (.if_icmp .le 6, 3) := by decide +kernel
theorem dX7_blocks_84 : decode cX7_blocks 84 = .ok (.iload 5, 2) := by decide +kernel
theorem dX7_blocks_86 : decode cX7_blocks 86 = .ok (.ireturn, 1) := by decide +kernel
theorem dX7_blocks_87 : decode cX7_blocks 87 = .ok (.iinc 5 1, 3) := by decide +kernel
theorem dX7_blocks_90 : decode cX7_blocks 90 = .ok (.goto (-40), 3) := by decide +kernel
theorem dX7_blocks_93 : decode cX7_blocks 93 = .ok (.bipush (-2), 2) := by decide +kernel
theorem dX7_blocks_95 : decode cX7_blocks 95 = .ok (.ireturn, 1) := by decide +kernel
theorem dX7_record_0 : decode cX7_record 0 = .ok (.aload_n 0, 1) := by decide +kernel
theorem dX7_record_1 : decode cX7_record 1 = .ok (.getfield 36, 3) := by decide +kernel
theorem dX7_record_4 : decode cX7_record 4 = .ok (.iload_n 1, 1) := by decide +kernel
theorem dX7_record_5 : decode cX7_record 5 = .ok (.iload_n 2, 1) := by decide +kernel
theorem dX7_record_6 : decode cX7_record 6 = .ok (.invokevirtual 292, 3) := by decide +kernel
theorem dX7_record_9 : decode cX7_record 9 = .ok (.ireturn, 1) := by decide +kernel
theorem dX7_bySupply_0 : decode cX7_bySupply 0 = .ok (.iload_n 1, 1) := by decide +kernel
theorem dX7_bySupply_1 : decode cX7_bySupply 1 = .ok (.invokestatic 188, 3) := by decide +kernel
theorem dX7_bySupply_4 : decode cX7_bySupply 4 = .ok (.ifCond .ne 5, 3) := by decide +kernel
theorem dX7_bySupply_7 : decode cX7_bySupply 7 = .ok (.iconst (-1), 1) := by decide +kernel
theorem dX7_bySupply_8 : decode cX7_bySupply 8 = .ok (.ireturn, 1) := by decide +kernel
theorem dX7_bySupply_9 : decode cX7_bySupply 9 = .ok (.aload_n 0, 1) := by decide +kernel
theorem dX7_bySupply_10 : decode cX7_bySupply 10 = .ok (.getfield 50, 3) := by decide +kernel
theorem dX7_bySupply_13 : decode cX7_bySupply 13 = .ok (.aload_n 0, 1) := by decide +kernel
theorem dX7_bySupply_14 : decode cX7_bySupply 14 = .ok (.getfield 32, 3) := by decide +kernel
theorem dX7_bySupply_17 : decode cX7_bySupply 17 = .ok (.invokevirtual 82, 3) := by decide +kernel
theorem dX7_bySupply_20 : decode cX7_bySupply 20 = .ok (.aload_n 0, 1) := by decide +kernel
theorem dX7_bySupply_21 : decode cX7_bySupply 21 = .ok (.getfield 50, 3) := by decide +kernel
theorem dX7_bySupply_24 : decode cX7_bySupply 24 = .ok (.iload_n 1, 1) := by decide +kernel
theorem dX7_bySupply_25 : decode cX7_bySupply 25 = .ok (.putfield 191, 3) := by decide +kernel
theorem dX7_bySupply_28 : decode cX7_bySupply 28 = .ok (.aload_n 0, 1) := by decide +kernel
theorem dX7_bySupply_29 : decode cX7_bySupply 29 = .ok (.getfield 47, 3) := by decide +kernel
theorem dX7_bySupply_32 : decode cX7_bySupply 32 = .ok (.invokevirtual 294, 3) := by decide +kernel
theorem dX7_bySupply_35 : decode cX7_bySupply 35 = .ok (.aload_n 0, 1) := by decide +kernel
theorem dX7_bySupply_36 : decode cX7_bySupply 36 = .ok (.getfield 47, 3) := by decide +kernel
theorem dX7_bySupply_39 : decode cX7_bySupply 39 = .ok (.iload_n 2, 1) := by decide +kernel
theorem dX7_bySupply_40 : decode cX7_bySupply 40 = .ok (.invokevirtual 229, 3) := by decide +kernel
theorem dX7_bySupply_43 : decode cX7_bySupply 43 = .ok (.ireturn, 1) := by decide +kernel
theorem dX7_byReserve_0 : decode cX7_byReserve 0 = .ok (.iload_n 1, 1) := by decide +kernel
theorem dX7_byReserve_1 : decode cX7_byReserve 1 = .ok (.invokestatic 110, 3) := by decide +kernel
theorem dX7_byReserve_4 : decode cX7_byReserve 4 = .ok (.ifCond .ne 5, 3) := by decide +kernel
theorem dX7_byReserve_7 : decode cX7_byReserve 7 = .ok (.iconst (-1), 1) := by decide +kernel
theorem dX7_byReserve_8 : decode cX7_byReserve 8 = .ok (.ireturn, 1) := by decide +kernel
theorem dX7_byReserve_9 : decode cX7_byReserve 9 = .ok (.aload_n 0, 1) := by decide +kernel
theorem dX7_byReserve_10 : decode cX7_byReserve 10 = .ok (.iload_n 1, 1) := by decide +kernel
theorem dX7_byReserve_11 : decode cX7_byReserve 11 = .ok (.invokevirtual 297, 3) := by decide +kernel
theorem dX7_byReserve_14 : decode cX7_byReserve 14 = .ok (.aload_n 0, 1) := by decide +kernel
theorem dX7_byReserve_15 : decode cX7_byReserve 15 = .ok (.getfield 47, 3) := by decide +kernel
theorem dX7_byReserve_18 : decode cX7_byReserve 18 = .ok (.iload_n 2, 1) := by decide +kernel
theorem dX7_byReserve_19 : decode cX7_byReserve 19 = .ok (.invokevirtual 229, 3) := by decide +kernel
theorem dX7_byReserve_22 : decode cX7_byReserve 22 = .ok (.ireturn, 1) := by decide +kernel
theorem dX7_bestReserve_0 : decode cX7_bestReserve 0 = .ok (.iload_n 1, 1) := by decide +kernel
theorem dX7_bestReserve_1 : decode cX7_bestReserve 1 = .ok (.invokestatic 151, 3) := by decide +kernel
theorem dX7_bestReserve_4 : decode cX7_bestReserve 4 = .ok (.ifCond .ne 5, 3) := by decide +kernel
theorem dX7_bestReserve_7 : decode cX7_bestReserve 7 = .ok (.iconst (-1), 1) := by decide +kernel
theorem dX7_bestReserve_8 : decode cX7_bestReserve 8 = .ok (.ireturn, 1) := by decide +kernel
theorem dX7_bestReserve_9 : decode cX7_bestReserve 9 = .ok (.iconst 0, 1) := by decide +kernel
theorem dX7_bestReserve_10 : decode cX7_bestReserve 10 = .ok (.istore_n 2, 1) := by decide +kernel
theorem dX7_bestReserve_11 : decode cX7_bestReserve 11 = .ok (.ldc 253, 2) := by decide +kernel
theorem dX7_bestReserve_13 : decode cX7_bestReserve 13 = .ok (.istore_n 3, 1) := by decide +kernel
theorem dX7_bestReserve_14 : decode cX7_bestReserve 14 = .ok (.iconst 0, 1) := by decide +kernel
theorem dX7_bestReserve_15 : decode cX7_bestReserve 15 = .ok (.istore 4, 2) := by decide +kernel
theorem dX7_bestReserve_17 : decode cX7_bestReserve 17 = .ok (.iload 4, 2) := by decide +kernel
theorem dX7_bestReserve_19 : decode cX7_bestReserve 19 = .ok (.bipush 99, 2) := by decide +kernel
theorem dX7_bestReserve_21 : decode cX7_bestReserve 21 = .ok (.if_icmp .gt 37, 3) := by decide +kernel
theorem dX7_bestReserve_24 : decode cX7_bestReserve 24 = .ok (.aload_n 0, 1) := by decide +kernel
theorem dX7_bestReserve_25 : decode cX7_bestReserve 25 = .ok (.iload 4, 2) := by decide +kernel
theorem dX7_bestReserve_27 : decode cX7_bestReserve 27 = .ok (.invokevirtual 297, 3) := by decide +kernel
theorem dX7_bestReserve_30 : decode cX7_bestReserve 30 = .ok (.aload_n 0, 1) := by decide +kernel
theorem dX7_bestReserve_31 : decode cX7_bestReserve 31 = .ok (.getfield 47, 3) := by decide +kernel
theorem dX7_bestReserve_34 : decode cX7_bestReserve 34 = .ok (.iload_n 1, 1) := by decide +kernel
theorem dX7_bestReserve_35 : decode cX7_bestReserve 35 = .ok (.invokevirtual 164, 3) := by decide +kernel
theorem dX7_bestReserve_38 : decode cX7_bestReserve 38 = .ok (.istore 5, 2) := by decide +kernel
theorem dX7_bestReserve_40 : decode cX7_bestReserve 40 = .ok (.iload 5, 2) := by decide +kernel
theorem dX7_bestReserve_42 : decode cX7_bestReserve 42 = .ok (.iload_n 3, 1) := by decide +kernel
theorem dX7_bestReserve_43 : decode cX7_bestReserve 43 = .ok (.if_icmp .le 9, 3) := by decide +kernel
theorem dX7_bestReserve_46 : decode cX7_bestReserve 46 = .ok (.iload 5, 2) := by decide +kernel
theorem dX7_bestReserve_48 : decode cX7_bestReserve 48 = .ok (.istore_n 3, 1) := by decide +kernel
theorem dX7_bestReserve_49 : decode cX7_bestReserve 49 = .ok (.iload 4, 2) := by decide +kernel
theorem dX7_bestReserve_51 : decode cX7_bestReserve 51 = .ok (.istore_n 2, 1) := by decide +kernel
theorem dX7_bestReserve_52 : decode cX7_bestReserve 52 = .ok (.iinc 4 1, 3) := by decide +kernel
theorem dX7_bestReserve_55 : decode cX7_bestReserve 55 = .ok (.goto (-38), 3) := by decide +kernel
theorem dX7_bestReserve_58 : decode cX7_bestReserve 58 = .ok (.iload_n 2, 1) := by decide +kernel
theorem dX7_bestReserve_59 : decode cX7_bestReserve 59 = .ok (.ireturn, 1) := by decide +kernel
theorem dX7_unitsWithout_0 : decode cX7_unitsWithout 0 = .ok (.aload_n 0, 1) := by decide +kernel
theorem dX7_unitsWithout_1 : decode cX7_unitsWithout 1 = .ok (.getfield 32, 3) := by decide +kernel
theorem dX7_unitsWithout_4 : decode cX7_unitsWithout 4 = .ok (.iload_n 1, 1) := by decide +kernel
theorem dX7_unitsWithout_5 : decode cX7_unitsWithout 5 = .ok (.iload_n 2, 1) := by decide +kernel
theorem dX7_unitsWithout_6 : decode cX7_unitsWithout 6 = .ok (.invokevirtual 141, 3) := by decide +kernel
theorem dX7_unitsWithout_9 : decode cX7_unitsWithout 9 = .ok (.ifCond .ne 5, 3) := by decide +kernel
theorem dX7_unitsWithout_12 : decode cX7_unitsWithout 12 = .ok (.iconst (-1), 1) := by decide +kernel
theorem dX7_unitsWithout_13 : decode cX7_unitsWithout 13 = .ok (.ireturn, 1) := by decide +kernel
theorem dX7_unitsWithout_14 : decode cX7_unitsWithout 14 = .ok (.aload_n 0, 1) := by decide +kernel
theorem dX7_unitsWithout_15 : decode cX7_unitsWithout 15 = .ok (.iload_n 2, 1) := by decide +kernel
theorem dX7_unitsWithout_16 : decode cX7_unitsWithout 16 = .ok (.invokevirtual 300, 3) := by decide +kernel
theorem dX7_unitsWithout_19 : decode cX7_unitsWithout 19 = .ok (.aload_n 0, 1) := by decide +kernel
theorem dX7_unitsWithout_20 : decode cX7_unitsWithout 20 = .ok (.getfield 47, 3) := by decide +kernel
theorem dX7_unitsWithout_23 : decode cX7_unitsWithout 23 = .ok (.getfield 172, 3) := by decide +kernel
theorem dX7_unitsWithout_26 : decode cX7_unitsWithout 26 = .ok (.iload_n 1, 1) := by decide +kernel
theorem dX7_unitsWithout_27 : decode cX7_unitsWithout 27 = .ok (.iload_n 2, 1) := by decide +kernel
theorem dX7_unitsWithout_28 : decode cX7_unitsWithout 28 = .ok (.invokestatic 303, 3) := by decide +kernel
theorem dX7_unitsWithout_31 : decode cX7_unitsWithout 31 = .ok (.iaload, 1) := by decide +kernel
theorem dX7_unitsWithout_32 : decode cX7_unitsWithout 32 = .ok (.ireturn, 1) := by decide +kernel
theorem dX7_paidWithout_0 : decode cX7_paidWithout 0 = .ok (.aload_n 0, 1) := by decide +kernel
theorem dX7_paidWithout_1 : decode cX7_paidWithout 1 = .ok (.getfield 32, 3) := by decide +kernel
theorem dX7_paidWithout_4 : decode cX7_paidWithout 4 = .ok (.iload_n 1, 1) := by decide +kernel
theorem dX7_paidWithout_5 : decode cX7_paidWithout 5 = .ok (.invokevirtual 104, 3) := by decide +kernel
theorem dX7_paidWithout_8 : decode cX7_paidWithout 8 = .ok (.ifCond .eq 10, 3) := by decide +kernel
theorem dX7_paidWithout_11 : decode cX7_paidWithout 11 = .ok (.iload_n 2, 1) := by decide +kernel
theorem dX7_paidWithout_12 : decode cX7_paidWithout 12 = .ok (.invokestatic 151, 3) := by decide +kernel
theorem dX7_paidWithout_15 : decode cX7_paidWithout 15 = .ok (.ifCond .ne 5, 3) := by decide +kernel
theorem dX7_paidWithout_18 : decode cX7_paidWithout 18 = .ok (.iconst (-1), 1) := by decide +kernel
theorem dX7_paidWithout_19 : decode cX7_paidWithout 19 = .ok (.ireturn, 1) := by decide +kernel
theorem dX7_paidWithout_20 : decode cX7_paidWithout 20 = .ok (.aload_n 0, 1) := by decide +kernel
theorem dX7_paidWithout_21 : decode cX7_paidWithout 21 = .ok (.iload_n 1, 1) := by decide +kernel
theorem dX7_paidWithout_22 : decode cX7_paidWithout 22 = .ok (.invokevirtual 300, 3) := by decide +kernel
theorem dX7_paidWithout_25 : decode cX7_paidWithout 25 = .ok (.aload_n 0, 1) := by decide +kernel
theorem dX7_paidWithout_26 : decode cX7_paidWithout 26 = .ok (.getfield 47, 3) := by decide +kernel
theorem dX7_paidWithout_29 : decode cX7_paidWithout 29 = .ok (.iload_n 2, 1) := by decide +kernel
theorem dX7_paidWithout_30 : decode cX7_paidWithout 30 = .ok (.invokevirtual 164, 3) := by decide +kernel
theorem dX7_paidWithout_33 : decode cX7_paidWithout 33 = .ok (.ireturn, 1) := by decide +kernel
theorem dX7_pivot_0 : decode cX7_pivot 0 = .ok (.bipush (-2), 2) := by decide +kernel
theorem dX7_pivot_2 : decode cX7_pivot 2 = .ok (.istore_n 1, 1) := by decide +kernel
theorem dX7_pivot_3 : decode cX7_pivot 3 = .ok (.ldc_w 306, 3) := by decide +kernel
theorem dX7_pivot_6 : decode cX7_pivot 6 = .ok (.istore_n 2, 1) := by decide +kernel
theorem dX7_pivot_7 : decode cX7_pivot 7 = .ok (.iconst 0, 1) := by decide +kernel
theorem dX7_pivot_8 : decode cX7_pivot 8 = .ok (.istore_n 3, 1) := by decide +kernel
theorem dX7_pivot_9 : decode cX7_pivot 9 = .ok (.iload_n 3, 1) := by decide +kernel
theorem dX7_pivot_10 : decode cX7_pivot 10 = .ok (.aload_n 0, 1) := by decide +kernel
theorem dX7_pivot_11 : decode cX7_pivot 11 = .ok (.getfield 32, 3) := by decide +kernel
theorem dX7_pivot_14 : decode cX7_pivot 14 = .ok (.getfield 94, 3) := by decide +kernel
theorem dX7_pivot_17 : decode cX7_pivot 17 = .ok (.if_icmp .ge 35, 3) := by decide +kernel
theorem dX7_pivot_20 : decode cX7_pivot 20 = .ok (.aload_n 0, 1) := by decide +kernel
theorem dX7_pivot_21 : decode cX7_pivot 21 = .ok (.iload_n 3, 1) := by decide +kernel
theorem dX7_pivot_22 : decode cX7_pivot 22 = .ok (.invokevirtual 300, 3) := by decide +kernel
theorem dX7_pivot_25 : decode cX7_pivot 25 = .ok (.aload_n 0, 1) := by decide +kernel
theorem dX7_pivot_26 : decode cX7_pivot 26 = .ok (.getfield 47, 3) := by decide +kernel
theorem dX7_pivot_29 : decode cX7_pivot 29 = .ok (.iconst 0, 1) := by decide +kernel
theorem dX7_pivot_30 : decode cX7_pivot 30 = .ok (.invokevirtual 164, 3) := by decide +kernel
theorem dX7_pivot_33 : decode cX7_pivot 33 = .ok (.istore 4, 2) := by decide +kernel
theorem dX7_pivot_35 : decode cX7_pivot 35 = .ok (.iload 4, 2) := by decide +kernel
theorem dX7_pivot_37 : decode cX7_pivot 37 = .ok (.iload_n 2, 1) := by decide +kernel
theorem dX7_pivot_38 : decode cX7_pivot 38 = .ok (.if_icmp .ge 8, 3) := by decide +kernel
theorem dX7_pivot_41 : decode cX7_pivot 41 = .ok (.iload 4, 2) := by decide +kernel
theorem dX7_pivot_43 : decode cX7_pivot 43 = .ok (.istore_n 2, 1) := by decide +kernel
theorem dX7_pivot_44 : decode cX7_pivot 44 = .ok (.iload_n 3, 1) := by decide +kernel
theorem dX7_pivot_45 : decode cX7_pivot 45 = .ok (.istore_n 1, 1) := by decide +kernel
theorem dX7_pivot_46 : decode cX7_pivot 46 = .ok (.iinc 3 1, 3) := by decide +kernel
theorem dX7_pivot_49 : decode cX7_pivot 49 = .ok (.goto (-40), 3) := by decide +kernel
theorem dX7_pivot_52 : decode cX7_pivot 52 = .ok (.iload_n 1, 1) := by decide +kernel
theorem dX7_pivot_53 : decode cX7_pivot 53 = .ok (.ireturn, 1) := by decide +kernel
theorem dX7_tells_0 : decode cX7_tells 0 = .ok (.aload_n 0, 1) := by decide +kernel
theorem dX7_tells_1 : decode cX7_tells 1 = .ok (.getfield 32, 3) := by decide +kernel
theorem dX7_tells_4 : decode cX7_tells 4 = .ok (.iload_n 1, 1) := by decide +kernel
theorem dX7_tells_5 : decode cX7_tells 5 = .ok (.invokevirtual 104, 3) := by decide +kernel
theorem dX7_tells_8 : decode cX7_tells 8 = .ok (.ifCond .eq 27, 3) := by decide +kernel
theorem dX7_tells_11 : decode cX7_tells 11 = .ok (.iload_n 2, 1) := by decide +kernel
theorem dX7_tells_12 : decode cX7_tells 12 = .ok (.invokestatic 151, 3) := by decide +kernel
theorem dX7_tells_15 : decode cX7_tells 15 = .ok (.ifCond .eq 20, 3) := by decide +kernel
theorem dX7_tells_18 : decode cX7_tells 18 = .ok (.iload_n 3, 1) := by decide +kernel
theorem dX7_tells_19 : decode cX7_tells 19 = .ok (.ifCond .lt 16, 3) := by decide +kernel
theorem dX7_tells_22 : decode cX7_tells 22 = .ok (.iload_n 3, 1) := by decide +kernel
theorem dX7_tells_23 : decode cX7_tells 23 = .ok (.aload_n 0, 1) := by decide +kernel
theorem dX7_tells_24 : decode cX7_tells 24 = .ok (.getfield 32, 3) := by decide +kernel
theorem dX7_tells_27 : decode cX7_tells 27 = .ok (.getfield 113, 3) := by decide +kernel
theorem dX7_tells_30 : decode cX7_tells 30 = .ok (.iload_n 1, 1) := by decide +kernel
theorem dX7_tells_31 : decode cX7_tells 31 = .ok (.iaload, 1) := by decide +kernel
theorem dX7_tells_32 : decode cX7_tells 32 = .ok (.if_icmp .le 6, 3) := by decide +kernel
theorem dX7_tells_35 : decode cX7_tells 35 = .ok (.ldc 216, 2) := by decide +kernel
theorem dX7_tells_37 : decode cX7_tells 37 = .ok (.ireturn, 1) := by decide +kernel
theorem dX7_tells_38 : decode cX7_tells 38 = .ok (.aload_n 0, 1) := by decide +kernel
theorem dX7_tells_39 : decode cX7_tells 39 = .ok (.iload_n 1, 1) := by decide +kernel
theorem dX7_tells_40 : decode cX7_tells 40 = .ok (.iload_n 2, 1) := by decide +kernel
theorem dX7_tells_41 : decode cX7_tells 41 = .ok (.iload_n 3, 1) := by decide +kernel
theorem dX7_tells_42 : decode cX7_tells 42 = .ok (.invokevirtual 307, 3) := by decide +kernel
theorem dX7_tells_45 : decode cX7_tells 45 = .ok (.ireturn, 1) := by decide +kernel
theorem dX7_bestTells_0 : decode cX7_bestTells 0 = .ok (.aload_n 0, 1) := by decide +kernel
theorem dX7_bestTells_1 : decode cX7_bestTells 1 = .ok (.getfield 32, 3) := by decide +kernel
theorem dX7_bestTells_4 : decode cX7_bestTells 4 = .ok (.iload_n 1, 1) := by decide +kernel
theorem dX7_bestTells_5 : decode cX7_bestTells 5 = .ok (.invokevirtual 104, 3) := by decide +kernel
theorem dX7_bestTells_8 : decode cX7_bestTells 8 = .ok (.ifCond .eq 10, 3) := by decide +kernel
theorem dX7_bestTells_11 : decode cX7_bestTells 11 = .ok (.iload_n 2, 1) := by decide +kernel
theorem dX7_bestTells_12 : decode cX7_bestTells 12 = .ok (.invokestatic 151, 3) := by decide +kernel
theorem dX7_bestTells_15 : decode cX7_bestTells 15 = .ok (.ifCond .ne 5, 3) := by decide +kernel
theorem dX7_bestTells_18 : decode cX7_bestTells 18 = .ok (.iconst (-1), 1) := by decide +kernel
theorem dX7_bestTells_19 : decode cX7_bestTells 19 = .ok (.ireturn, 1) := by decide +kernel
theorem dX7_bestTells_20 : decode cX7_bestTells 20 = .ok (.iconst 0, 1) := by decide +kernel
theorem dX7_bestTells_21 : decode cX7_bestTells 21 = .ok (.istore_n 3, 1) := by decide +kernel
theorem dX7_bestTells_22 : decode cX7_bestTells 22 = .ok (.ldc 253, 2) := by decide +kernel
theorem dX7_bestTells_24 : decode cX7_bestTells 24 = .ok (.istore 4, 2) := by decide +kernel
theorem dX7_bestTells_26 : decode cX7_bestTells 26 = .ok (.iconst 0, 1) := by decide +kernel
theorem dX7_bestTells_27 : decode cX7_bestTells 27 = .ok (.istore 5, 2) := by decide +kernel
theorem dX7_bestTells_29 : decode cX7_bestTells 29 = .ok (.iload 5, 2) := by decide +kernel
theorem dX7_bestTells_31 : decode cX7_bestTells 31 = .ok (.aload_n 0, 1) := by decide +kernel
theorem dX7_bestTells_32 : decode cX7_bestTells 32 = .ok (.getfield 32, 3) := by decide +kernel
theorem dX7_bestTells_35 : decode cX7_bestTells 35 = .ok (.getfield 113, 3) := by decide +kernel
theorem dX7_bestTells_38 : decode cX7_bestTells 38 = .ok (.iload_n 1, 1) := by decide +kernel
theorem dX7_bestTells_39 : decode cX7_bestTells 39 = .ok (.iaload, 1) := by decide +kernel
theorem dX7_bestTells_40 : decode cX7_bestTells 40 = .ok (.if_icmp .gt 33, 3) := by decide +kernel
theorem dX7_bestTells_43 : decode cX7_bestTells 43 = .ok (.aload_n 0, 1) := by decide +kernel
theorem dX7_bestTells_44 : decode cX7_bestTells 44 = .ok (.iload_n 1, 1) := by decide +kernel
theorem dX7_bestTells_45 : decode cX7_bestTells 45 = .ok (.iload_n 2, 1) := by decide +kernel
theorem dX7_bestTells_46 : decode cX7_bestTells 46 = .ok (.iload 5, 2) := by decide +kernel
theorem dX7_bestTells_48 : decode cX7_bestTells 48 = .ok (.invokevirtual 307, 3) := by decide +kernel
theorem dX7_bestTells_51 : decode cX7_bestTells 51 = .ok (.istore 6, 2) := by decide +kernel
theorem dX7_bestTells_53 : decode cX7_bestTells 53 = .ok (.iload 6, 2) := by decide +kernel
theorem dX7_bestTells_55 : decode cX7_bestTells 55 = .ok (.iload 4, 2) := by decide +kernel
theorem dX7_bestTells_57 : decode cX7_bestTells 57 = .ok (.if_icmp .lt 10, 3) := by decide +kernel
theorem dX7_bestTells_60 : decode cX7_bestTells 60 = .ok (.iload 6, 2) := by decide +kernel
theorem dX7_bestTells_62 : decode cX7_bestTells 62 = .ok (.istore 4, 2) := by decide +kernel
theorem dX7_bestTells_64 : decode cX7_bestTells 64 = .ok (.iload 5, 2) := by decide +kernel
theorem dX7_bestTells_66 : decode cX7_bestTells 66 = .ok (.istore_n 3, 1) := by decide +kernel
theorem dX7_bestTells_67 : decode cX7_bestTells 67 = .ok (.iinc 5 1, 3) := by decide +kernel
theorem dX7_bestTells_70 : decode cX7_bestTells 70 = .ok (.goto (-41), 3) := by decide +kernel
theorem dX7_bestTells_73 : decode cX7_bestTells 73 = .ok (.iload_n 3, 1) := by decide +kernel
theorem dX7_bestTells_74 : decode cX7_bestTells 74 = .ok (.ireturn, 1) := by decide +kernel
theorem dX7_hides_0 : decode cX7_hides 0 = .ok (.aload_n 0, 1) := by decide +kernel
theorem dX7_hides_1 : decode cX7_hides 1 = .ok (.getfield 32, 3) := by decide +kernel
theorem dX7_hides_4 : decode cX7_hides 4 = .ok (.iload_n 1, 1) := by decide +kernel
theorem dX7_hides_5 : decode cX7_hides 5 = .ok (.invokevirtual 104, 3) := by decide +kernel
theorem dX7_hides_8 : decode cX7_hides 8 = .ok (.ifCond .eq 17, 3) := by decide +kernel
theorem dX7_hides_11 : decode cX7_hides 11 = .ok (.iload_n 2, 1) := by decide +kernel
theorem dX7_hides_12 : decode cX7_hides 12 = .ok (.invokestatic 151, 3) := by decide +kernel
theorem dX7_hides_15 : decode cX7_hides 15 = .ok (.ifCond .eq 10, 3) := by decide +kernel
theorem dX7_hides_18 : decode cX7_hides 18 = .ok (.iload_n 3, 1) := by decide +kernel
theorem dX7_hides_19 : decode cX7_hides 19 = .ok (.invokestatic 110, 3) := by decide +kernel
theorem dX7_hides_22 : decode cX7_hides 22 = .ok (.ifCond .ne 6, 3) := by decide +kernel
theorem dX7_hides_25 : decode cX7_hides 25 = .ok (.ldc 216, 2) := by decide +kernel
theorem dX7_hides_27 : decode cX7_hides 27 = .ok (.ireturn, 1) := by decide +kernel
theorem dX7_hides_28 : decode cX7_hides 28 = .ok (.aload_n 0, 1) := by decide +kernel
theorem dX7_hides_29 : decode cX7_hides 29 = .ok (.iload_n 1, 1) := by decide +kernel
theorem dX7_hides_30 : decode cX7_hides 30 = .ok (.iload_n 2, 1) := by decide +kernel
theorem dX7_hides_31 : decode cX7_hides 31 = .ok (.iload_n 3, 1) := by decide +kernel
theorem dX7_hides_32 : decode cX7_hides 32 = .ok (.invokevirtual 311, 3) := by decide +kernel
theorem dX7_hides_35 : decode cX7_hides 35 = .ok (.ireturn, 1) := by decide +kernel
theorem dX7_bestHides_0 : decode cX7_bestHides 0 = .ok (.aload_n 0, 1) := by decide +kernel
theorem dX7_bestHides_1 : decode cX7_bestHides 1 = .ok (.getfield 32, 3) := by decide +kernel
theorem dX7_bestHides_4 : decode cX7_bestHides 4 = .ok (.iload_n 1, 1) := by decide +kernel
theorem dX7_bestHides_5 : decode cX7_bestHides 5 = .ok (.invokevirtual 104, 3) := by decide +kernel
theorem dX7_bestHides_8 : decode cX7_bestHides 8 = .ok (.ifCond .eq 10, 3) := by decide +kernel
theorem dX7_bestHides_11 : decode cX7_bestHides 11 = .ok (.iload_n 2, 1) := by decide +kernel
theorem dX7_bestHides_12 : decode cX7_bestHides 12 = .ok (.invokestatic 151, 3) := by decide +kernel
theorem dX7_bestHides_15 : decode cX7_bestHides 15 = .ok (.ifCond .ne 5, 3) := by decide +kernel
theorem dX7_bestHides_18 : decode cX7_bestHides 18 = .ok (.iconst (-1), 1) := by decide +kernel
theorem dX7_bestHides_19 : decode cX7_bestHides 19 = .ok (.ireturn, 1) := by decide +kernel
theorem dX7_bestHides_20 : decode cX7_bestHides 20 = .ok (.iconst 0, 1) := by decide +kernel
theorem dX7_bestHides_21 : decode cX7_bestHides 21 = .ok (.istore_n 3, 1) := by decide +kernel
theorem dX7_bestHides_22 : decode cX7_bestHides 22 = .ok (.ldc 253, 2) := by decide +kernel
theorem dX7_bestHides_24 : decode cX7_bestHides 24 = .ok (.istore 4, 2) := by decide +kernel
theorem dX7_bestHides_26 : decode cX7_bestHides 26 = .ok (.iconst 0, 1) := by decide +kernel
theorem dX7_bestHides_27 : decode cX7_bestHides 27 = .ok (.istore 5, 2) := by decide +kernel
theorem dX7_bestHides_29 : decode cX7_bestHides 29 = .ok (.iload 5, 2) := by decide +kernel
theorem dX7_bestHides_31 : decode cX7_bestHides 31 = .ok (.bipush 20, 2) := by decide +kernel
theorem dX7_bestHides_33 : decode cX7_bestHides 33 = .ok (.if_icmp .gt 33, 3) := by decide +kernel
theorem dX7_bestHides_36 : decode cX7_bestHides 36 = .ok (.aload_n 0, 1) := by decide +kernel
theorem dX7_bestHides_37 : decode cX7_bestHides 37 = .ok (.iload_n 1, 1) := by decide +kernel
theorem dX7_bestHides_38 : decode cX7_bestHides 38 = .ok (.iload_n 2, 1) := by decide +kernel
theorem dX7_bestHides_39 : decode cX7_bestHides 39 = .ok (.iload 5, 2) := by decide +kernel
theorem dX7_bestHides_41 : decode cX7_bestHides 41 = .ok (.invokevirtual 311, 3) := by decide +kernel
theorem dX7_bestHides_44 : decode cX7_bestHides 44 = .ok (.istore 6, 2) := by decide +kernel
theorem dX7_bestHides_46 : decode cX7_bestHides 46 = .ok (.iload 6, 2) := by decide +kernel
theorem dX7_bestHides_48 : decode cX7_bestHides 48 = .ok (.iload 4, 2) := by decide +kernel
theorem dX7_bestHides_50 : decode cX7_bestHides 50 = .ok (.if_icmp .le 10, 3) := by decide +kernel
theorem dX7_bestHides_53 : decode cX7_bestHides 53 = .ok (.iload 6, 2) := by decide +kernel
theorem dX7_bestHides_55 : decode cX7_bestHides 55 = .ok (.istore 4, 2) := by decide +kernel
theorem dX7_bestHides_57 : decode cX7_bestHides 57 = .ok (.iload 5, 2) := by decide +kernel
theorem dX7_bestHides_59 : decode cX7_bestHides 59 = .ok (.istore_n 3, 1) := by decide +kernel
theorem dX7_bestHides_60 : decode cX7_bestHides 60 = .ok (.iinc 5 1, 3) := by decide +kernel
theorem dX7_bestHides_63 : decode cX7_bestHides 63 = .ok (.goto (-34), 3) := by decide +kernel
theorem dX7_bestHides_66 : decode cX7_bestHides 66 = .ok (.iload_n 3, 1) := by decide +kernel
theorem dX7_bestHides_67 : decode cX7_bestHides 67 = .ok (.ireturn, 1) := by decide +kernel
theorem dX7_inTwo_0 : decode cX7_inTwo 0 = .ok (.iload_n 1, 1) := by decide +kernel
theorem dX7_inTwo_1 : decode cX7_inTwo 1 = .ok (.iconst 1, 1) := by decide +kernel
theorem dX7_inTwo_2 : decode cX7_inTwo 2 = .ok (.if_icmp .lt 21, 3) := by decide +kernel
theorem dX7_inTwo_5 : decode cX7_inTwo 5 = .ok (.iload_n 1, 1) := by decide +kernel
theorem dX7_inTwo_6 : decode cX7_inTwo 6 = .ok (.aload_n 0, 1) := by decide +kernel
theorem dX7_inTwo_7 : decode cX7_inTwo 7 = .ok (.getfield 32, 3) := by decide +kernel
theorem dX7_inTwo_10 : decode cX7_inTwo 10 = .ok (.getfield 191, 3) := by decide +kernel
theorem dX7_inTwo_13 : decode cX7_inTwo 13 = .ok (.if_icmp .ge 10, 3) := by decide +kernel
theorem dX7_inTwo_16 : decode cX7_inTwo 16 = .ok (.iload_n 2, 1) := by decide +kernel
theorem dX7_inTwo_17 : decode cX7_inTwo 17 = .ok (.invokestatic 151, 3) := by decide +kernel
theorem dX7_inTwo_20 : decode cX7_inTwo 20 = .ok (.ifCond .ne 5, 3) := by decide +kernel
theorem dX7_inTwo_23 : decode cX7_inTwo 23 = .ok (.iconst (-1), 1) := by decide +kernel
theorem dX7_inTwo_24 : decode cX7_inTwo 24 = .ok (.ireturn, 1) := by decide +kernel
theorem dX7_inTwo_25 : decode cX7_inTwo 25 = .ok (.aload_n 0, 1) := by decide +kernel
theorem dX7_inTwo_26 : decode cX7_inTwo 26 = .ok (.getfield 50, 3) := by decide +kernel
theorem dX7_inTwo_29 : decode cX7_inTwo 29 = .ok (.aload_n 0, 1) := by decide +kernel
theorem dX7_inTwo_30 : decode cX7_inTwo 30 = .ok (.getfield 32, 3) := by decide +kernel
theorem dX7_inTwo_33 : decode cX7_inTwo 33 = .ok (.invokevirtual 82, 3) := by decide +kernel
theorem dX7_inTwo_36 : decode cX7_inTwo 36 = .ok (.aload_n 0, 1) := by decide +kernel
theorem dX7_inTwo_37 : decode cX7_inTwo 37 = .ok (.getfield 50, 3) := by decide +kernel
theorem dX7_inTwo_40 : decode cX7_inTwo 40 = .ok (.iload_n 1, 1) := by decide +kernel
theorem dX7_inTwo_41 : decode cX7_inTwo 41 = .ok (.putfield 191, 3) := by decide +kernel
theorem dX7_inTwo_44 : decode cX7_inTwo 44 = .ok (.aload_n 0, 1) := by decide +kernel
theorem dX7_inTwo_45 : decode cX7_inTwo 45 = .ok (.getfield 47, 3) := by decide +kernel
theorem dX7_inTwo_48 : decode cX7_inTwo 48 = .ok (.invokevirtual 294, 3) := by decide +kernel
theorem dX7_inTwo_51 : decode cX7_inTwo 51 = .ok (.aload_n 0, 1) := by decide +kernel
theorem dX7_inTwo_52 : decode cX7_inTwo 52 = .ok (.getfield 47, 3) := by decide +kernel
theorem dX7_inTwo_55 : decode cX7_inTwo 55 = .ok (.iload_n 2, 1) := by decide +kernel
theorem dX7_inTwo_56 : decode cX7_inTwo 56 = .ok (.invokevirtual 164, 3) := by decide +kernel
theorem dX7_inTwo_59 : decode cX7_inTwo 59 = .ok (.istore_n 3, 1) := by decide +kernel
theorem dX7_inTwo_60 : decode cX7_inTwo 60 = .ok (.aload_n 0, 1) := by decide +kernel
theorem dX7_inTwo_61 : decode cX7_inTwo 61 = .ok (.getfield 50, 3) := by decide +kernel
theorem dX7_inTwo_64 : decode cX7_inTwo 64 = .ok (.aload_n 0, 1) := by decide +kernel
theorem dX7_inTwo_65 : decode cX7_inTwo 65 = .ok (.getfield 47, 3) := by decide +kernel
theorem dX7_inTwo_68 : decode cX7_inTwo 68 = .ok (.getfield 172, 3) := by decide +kernel
theorem dX7_inTwo_71 : decode cX7_inTwo 71 = .ok (.invokevirtual 175, 3) := by decide +kernel
theorem dX7_inTwo_74 : decode cX7_inTwo 74 = .ok (.aload_n 0, 1) := by decide +kernel
theorem dX7_inTwo_75 : decode cX7_inTwo 75 = .ok (.getfield 50, 3) := by decide +kernel
theorem dX7_inTwo_78 : decode cX7_inTwo 78 = .ok (.aload_n 0, 1) := by decide +kernel
theorem dX7_inTwo_79 : decode cX7_inTwo 79 = .ok (.getfield 32, 3) := by decide +kernel
theorem dX7_inTwo_82 : decode cX7_inTwo 82 = .ok (.getfield 191, 3) := by decide +kernel
theorem dX7_inTwo_85 : decode cX7_inTwo 85 = .ok (.iload_n 1, 1) := by decide +kernel
theorem dX7_inTwo_86 : decode cX7_inTwo 86 = .ok (.isub, 1) := by decide +kernel
theorem dX7_inTwo_87 : decode cX7_inTwo 87 = .ok (.putfield 191, 3) := by decide +kernel
theorem dX7_inTwo_90 : decode cX7_inTwo 90 = .ok (.aload_n 0, 1) := by decide +kernel
theorem dX7_inTwo_91 : decode cX7_inTwo 91 = .ok (.getfield 47, 3) := by decide +kernel
theorem dX7_inTwo_94 : decode cX7_inTwo 94 = .ok (.invokevirtual 294, 3) := by decide +kernel
theorem dX7_inTwo_97 : decode cX7_inTwo 97 = .ok (.iload_n 3, 1) := by decide +kernel
theorem dX7_inTwo_98 : decode cX7_inTwo 98 = .ok (.aload_n 0, 1) := by decide +kernel
theorem dX7_inTwo_99 : decode cX7_inTwo 99 = .ok (.getfield 47, 3) := by decide +kernel
theorem dX7_inTwo_102 : decode cX7_inTwo 102 = .ok (.iload_n 2, 1) := by decide +kernel
theorem dX7_inTwo_103 : decode cX7_inTwo 103 = .ok (.invokevirtual 164, 3) := by decide +kernel
theorem dX7_inTwo_106 : decode cX7_inTwo 106 = .ok (.iadd, 1) := by decide +kernel
theorem dX7_inTwo_107 : decode cX7_inTwo 107 = .ok (.ireturn, 1) := by decide +kernel
theorem dX7_splitGain_0 : decode cX7_splitGain 0 = .ok (.aload_n 0, 1) := by decide +kernel
theorem dX7_splitGain_1 : decode cX7_splitGain 1 = .ok (.getfield 32, 3) := by decide +kernel
theorem dX7_splitGain_4 : decode cX7_splitGain 4 = .ok (.iload_n 1, 1) := by decide +kernel
theorem dX7_splitGain_5 : decode cX7_splitGain 5 = .ok (.iload_n 2, 1) := by decide +kernel
theorem dX7_splitGain_6 : decode cX7_splitGain 6 = .ok (.invokevirtual 135, 3) := by decide +kernel
theorem dX7_splitGain_9 : decode cX7_splitGain 9 = .ok (.ifCond .eq 10, 3) := by decide +kernel
theorem dX7_splitGain_12 : decode cX7_splitGain 12 = .ok (.iload_n 3, 1) := by decide +kernel
theorem dX7_splitGain_13 : decode cX7_splitGain 13 = .ok (.invokestatic 151, 3) := by decide +kernel
theorem dX7_splitGain_16 : decode cX7_splitGain 16 = .ok (.ifCond .ne 6, 3) := by decide +kernel
theorem dX7_splitGain_19 : decode cX7_splitGain 19 = .ok (.ldc 216, 2) := by decide +kernel
theorem dX7_splitGain_21 : decode cX7_splitGain 21 = .ok (.ireturn, 1) := by decide +kernel
theorem dX7_splitGain_22 : decode cX7_splitGain 22 = .ok (.aload_n 0, 1) := by decide +kernel
theorem dX7_splitGain_23 : decode cX7_splitGain 23 = .ok (.invokevirtual 154, 3) := by decide +kernel
theorem dX7_splitGain_26 : decode cX7_splitGain 26 = .ok (.iload_n 1, 1) := by decide +kernel
theorem dX7_splitGain_27 : decode cX7_splitGain 27 = .ok (.iload_n 3, 1) := by decide +kernel
theorem dX7_splitGain_28 : decode cX7_splitGain 28 = .ok (.invokevirtual 210, 3) := by decide +kernel
theorem dX7_splitGain_31 : decode cX7_splitGain 31 = .ok (.istore 4, 2) := by decide +kernel
theorem dX7_splitGain_33 : decode cX7_splitGain 33 = .ok (.aload_n 0, 1) := by decide +kernel
theorem dX7_splitGain_34 : decode cX7_splitGain 34 = .ok (.getfield 50, 3) := by decide +kernel
theorem dX7_splitGain_37 : decode cX7_splitGain 37 = .ok (.aload_n 0, 1) := by decide +kernel
theorem dX7_splitGain_38 : decode cX7_splitGain 38 = .ok (.getfield 32, 3) := by decide +kernel
theorem dX7_splitGain_41 : decode cX7_splitGain 41 = .ok (.invokevirtual 82, 3) := by decide +kernel
theorem dX7_splitGain_44 : decode cX7_splitGain 44 = .ok (.aload_n 0, 1) := by decide +kernel
theorem dX7_splitGain_45 : decode cX7_splitGain 45 = .ok (.getfield 50, 3) := by decide +kernel
theorem dX7_splitGain_48 : decode cX7_splitGain 48 = .ok (.iload_n 1, 1) := by decide +kernel
theorem dX7_splitGain_49 : decode cX7_splitGain 49 = .ok (.iload_n 2, 1) := by decide +kernel
theorem dX7_splitGain_50 : decode cX7_splitGain 50 = .ok (.invokevirtual 138, 3) := by decide +kernel
theorem dX7_splitGain_53 : decode cX7_splitGain 53 = .ok (.istore 5, 2) := by decide +kernel
theorem dX7_splitGain_55 : decode cX7_splitGain 55 = .ok (.aload_n 0, 1) := by decide +kernel
theorem dX7_splitGain_56 : decode cX7_splitGain 56 = .ok (.getfield 47, 3) := by decide +kernel
theorem dX7_splitGain_59 : decode cX7_splitGain 59 = .ok (.invokevirtual 294, 3) := by decide +kernel
theorem dX7_splitGain_62 : decode cX7_splitGain 62 = .ok (.iload 4, 2) := by decide +kernel
theorem dX7_splitGain_64 : decode cX7_splitGain 64 = .ok (.aload_n 0, 1) := by decide +kernel
theorem dX7_splitGain_65 : decode cX7_splitGain 65 = .ok (.getfield 47, 3) := by decide +kernel
theorem dX7_splitGain_68 : decode cX7_splitGain 68 = .ok (.iload_n 1, 1) := by decide +kernel
theorem dX7_splitGain_69 : decode cX7_splitGain 69 = .ok (.iload_n 3, 1) := by decide +kernel
theorem dX7_splitGain_70 : decode cX7_splitGain 70 = .ok (.invokevirtual 210, 3) := by decide +kernel
theorem dX7_splitGain_73 : decode cX7_splitGain 73 = .ok (.isub, 1) := by decide +kernel
theorem dX7_splitGain_74 : decode cX7_splitGain 74 = .ok (.aload_n 0, 1) := by decide +kernel
theorem dX7_splitGain_75 : decode cX7_splitGain 75 = .ok (.getfield 47, 3) := by decide +kernel
theorem dX7_splitGain_78 : decode cX7_splitGain 78 = .ok (.iload 5, 2) := by decide +kernel
theorem dX7_splitGain_80 : decode cX7_splitGain 80 = .ok (.iload_n 3, 1) := by decide +kernel
theorem dX7_splitGain_81 : decode cX7_splitGain 81 = .ok (.invokevirtual 210, 3) := by decide +kernel
theorem dX7_splitGain_84 : decode cX7_splitGain 84 = .ok (.isub, 1) := by decide +kernel
theorem dX7_splitGain_85 : decode cX7_splitGain 85 = .ok (.ireturn, 1) := by decide +kernel
theorem dX7_reserveFor_0 : decode cX7_reserveFor 0 = .ok (.iload_n 1, 1) := by decide +kernel
theorem dX7_reserveFor_1 : decode cX7_reserveFor 1 = .ok (.iconst 1, 1) := by decide +kernel
theorem dX7_reserveFor_2 : decode cX7_reserveFor 2 = .ok (.if_icmp .ge 5, 3) := by decide +kernel
theorem dX7_reserveFor_5 : decode cX7_reserveFor 5 = .ok (.iconst (-1), 1) := by decide +kernel
theorem dX7_reserveFor_6 : decode cX7_reserveFor 6 = .ok (.ireturn, 1) := by decide +kernel
theorem dX7_reserveFor_7 : decode cX7_reserveFor 7 = .ok (.iconst 0, 1) := by decide +kernel
theorem dX7_reserveFor_8 : decode cX7_reserveFor 8 = .ok (.istore_n 2, 1) := by decide +kernel
theorem dX7_reserveFor_9 : decode cX7_reserveFor 9 = .ok (.iload_n 2, 1) := by decide +kernel
theorem dX7_reserveFor_10 : decode cX7_reserveFor 10 = .ok (.bipush 99, 2) := by decide +kernel
theorem dX7_reserveFor_12 : decode cX7_reserveFor 12 = .ok (.if_icmp .gt 27, 3) := by decide +kernel
theorem dX7_reserveFor_15 : decode cX7_reserveFor 15 = .ok (.aload_n 0, 1) := by decide +kernel
theorem dX7_reserveFor_16 : decode cX7_reserveFor 16 = .ok (.iload_n 2, 1) := by decide +kernel
theorem dX7_reserveFor_17 : decode cX7_reserveFor 17 = .ok (.invokevirtual 297, 3) := by decide +kernel
theorem dX7_reserveFor_20 : decode cX7_reserveFor 20 = .ok (.aload_n 0, 1) := by decide +kernel
theorem dX7_reserveFor_21 : decode cX7_reserveFor 21 = .ok (.getfield 47, 3) := by decide +kernel
theorem dX7_reserveFor_24 : decode cX7_reserveFor 24 = .ok (.invokevirtual 283, 3) := by decide +kernel
theorem dX7_reserveFor_27 : decode cX7_reserveFor 27 = .ok (.iload_n 1, 1) := by decide +kernel
theorem dX7_reserveFor_28 : decode cX7_reserveFor 28 = .ok (.if_icmp .lt 5, 3) := by decide +kernel
theorem dX7_reserveFor_31 : decode cX7_reserveFor 31 = .ok (.iload_n 2, 1) := by decide +kernel
theorem dX7_reserveFor_32 : decode cX7_reserveFor 32 = .ok (.ireturn, 1) := by decide +kernel
theorem dX7_reserveFor_33 : decode cX7_reserveFor 33 = .ok (.iinc 2 1, 3) := by decide +kernel
theorem dX7_reserveFor_36 : decode cX7_reserveFor 36 = .ok (.goto (-27), 3) := by decide +kernel
theorem dX7_reserveFor_39 : decode cX7_reserveFor 39 = .ok (.bipush (-2), 2) := by decide +kernel
theorem dX7_reserveFor_41 : decode cX7_reserveFor 41 = .ok (.ireturn, 1) := by decide +kernel
theorem dX7_collude_0 : decode cX7_collude 0 = .ok (.aload_n 0, 1) := by decide +kernel
theorem dX7_collude_1 : decode cX7_collude 1 = .ok (.getfield 32, 3) := by decide +kernel
theorem dX7_collude_4 : decode cX7_collude 4 = .ok (.iload_n 1, 1) := by decide +kernel
theorem dX7_collude_5 : decode cX7_collude 5 = .ok (.iload_n 2, 1) := by decide +kernel
theorem dX7_collude_6 : decode cX7_collude 6 = .ok (.invokevirtual 141, 3) := by decide +kernel
theorem dX7_collude_9 : decode cX7_collude 9 = .ok (.ifCond .eq 10, 3) := by decide +kernel
theorem dX7_collude_12 : decode cX7_collude 12 = .ok (.iload_n 3, 1) := by decide +kernel
theorem dX7_collude_13 : decode cX7_collude 13 = .ok (.invokestatic 151, 3) := by decide +kernel
theorem dX7_collude_16 : decode cX7_collude 16 = .ok (.ifCond .ne 6, 3) := by decide +kernel
theorem dX7_collude_19 : decode cX7_collude 19 = .ok (.ldc 216, 2) := by decide +kernel
theorem dX7_collude_21 : decode cX7_collude 21 = .ok (.ireturn, 1) := by decide +kernel
theorem dX7_collude_22 : decode cX7_collude 22 = .ok (.aload_n 0, 1) := by decide +kernel
theorem dX7_collude_23 : decode cX7_collude 23 = .ok (.invokevirtual 154, 3) := by decide +kernel
theorem dX7_collude_26 : decode cX7_collude 26 = .ok (.iload_n 1, 1) := by decide +kernel
theorem dX7_collude_27 : decode cX7_collude 27 = .ok (.iload_n 3, 1) := by decide +kernel
theorem dX7_collude_28 : decode cX7_collude 28 = .ok (.invokevirtual 210, 3) := by decide +kernel
theorem dX7_collude_31 : decode cX7_collude 31 = .ok (.aload_n 0, 1) := by decide +kernel
theorem dX7_collude_32 : decode cX7_collude 32 = .ok (.invokevirtual 154, 3) := by decide +kernel
theorem dX7_collude_35 : decode cX7_collude 35 = .ok (.iload_n 2, 1) := by decide +kernel
theorem dX7_collude_36 : decode cX7_collude 36 = .ok (.iload_n 3, 1) := by decide +kernel
theorem dX7_collude_37 : decode cX7_collude 37 = .ok (.invokevirtual 210, 3) := by decide +kernel
theorem dX7_collude_40 : decode cX7_collude 40 = .ok (.iadd, 1) := by decide +kernel
theorem dX7_collude_41 : decode cX7_collude 41 = .ok (.istore 4, 2) := by decide +kernel
theorem dX7_collude_43 : decode cX7_collude 43 = .ok (.aload_n 0, 1) := by decide +kernel
theorem dX7_collude_44 : decode cX7_collude 44 = .ok (.getfield 50, 3) := by decide +kernel
theorem dX7_collude_47 : decode cX7_collude 47 = .ok (.aload_n 0, 1) := by decide +kernel
theorem dX7_collude_48 : decode cX7_collude 48 = .ok (.getfield 32, 3) := by decide +kernel
theorem dX7_collude_51 : decode cX7_collude 51 = .ok (.invokevirtual 82, 3) := by decide +kernel
theorem dX7_collude_54 : decode cX7_collude 54 = .ok (.aload_n 0, 1) := by decide +kernel
theorem dX7_collude_55 : decode cX7_collude 55 = .ok (.getfield 50, 3) := by decide +kernel
theorem dX7_collude_58 : decode cX7_collude 58 = .ok (.iload_n 1, 1) := by decide +kernel
theorem dX7_collude_59 : decode cX7_collude 59 = .ok (.iload_n 2, 1) := by decide +kernel
theorem dX7_collude_60 : decode cX7_collude 60 = .ok (.invokevirtual 314, 3) := by decide +kernel
theorem dX7_collude_63 : decode cX7_collude 63 = .ok (.aload_n 0, 1) := by decide +kernel
theorem dX7_collude_64 : decode cX7_collude 64 = .ok (.getfield 50, 3) := by decide +kernel
theorem dX7_collude_67 : decode cX7_collude 67 = .ok (.iload_n 2, 1) := by decide +kernel
theorem dX7_collude_68 : decode cX7_collude 68 = .ok (.invokevirtual 107, 3) := by decide +kernel
theorem dX7_collude_71 : decode cX7_collude 71 = .ok (.aload_n 0, 1) := by decide +kernel
theorem dX7_collude_72 : decode cX7_collude 72 = .ok (.getfield 47, 3) := by decide +kernel
theorem dX7_collude_75 : decode cX7_collude 75 = .ok (.invokevirtual 294, 3) := by decide +kernel
theorem dX7_collude_78 : decode cX7_collude 78 = .ok (.iload 4, 2) := by decide +kernel
theorem dX7_collude_80 : decode cX7_collude 80 = .ok (.aload_n 0, 1) := by decide +kernel
theorem dX7_collude_81 : decode cX7_collude 81 = .ok (.getfield 47, 3) := by decide +kernel
theorem dX7_collude_84 : decode cX7_collude 84 = .ok (.iload_n 1, 1) := by decide +kernel
theorem dX7_collude_85 : decode cX7_collude 85 = .ok (.iload_n 2, 1) := by decide +kernel
theorem dX7_collude_86 : decode cX7_collude 86 = .ok (.invokestatic 303, 3) := by decide +kernel
theorem dX7_collude_89 : decode cX7_collude 89 = .ok (.iload_n 3, 1) := by decide +kernel
theorem dX7_collude_90 : decode cX7_collude 90 = .ok (.invokevirtual 210, 3) := by decide +kernel
theorem dX7_collude_93 : decode cX7_collude 93 = .ok (.isub, 1) := by decide +kernel
theorem dX7_collude_94 : decode cX7_collude 94 = .ok (.ireturn, 1) := by decide +kernel
theorem dX7_supplyFor_0 : decode cX7_supplyFor 0 = .ok (.iload_n 1, 1) := by decide +kernel
theorem dX7_supplyFor_1 : decode cX7_supplyFor 1 = .ok (.invokestatic 110, 3) := by decide +kernel
theorem dX7_supplyFor_4 : decode cX7_supplyFor 4 = .ok (.ifCond .ne 5, 3) := by decide +kernel
theorem dX7_supplyFor_7 : decode cX7_supplyFor 7 = .ok (.iconst (-1), 1) := by decide +kernel
theorem dX7_supplyFor_8 : decode cX7_supplyFor 8 = .ok (.ireturn, 1) := by decide +kernel
theorem dX7_supplyFor_9 : decode cX7_supplyFor 9 = .ok (.aload_n 0, 1) := by decide +kernel
theorem dX7_supplyFor_10 : decode cX7_supplyFor 10 = .ok (.getfield 50, 3) := by decide +kernel
theorem dX7_supplyFor_13 : decode cX7_supplyFor 13 = .ok (.aload_n 0, 1) := by decide +kernel
theorem dX7_supplyFor_14 : decode cX7_supplyFor 14 = .ok (.getfield 32, 3) := by decide +kernel
theorem dX7_supplyFor_17 : decode cX7_supplyFor 17 = .ok (.invokevirtual 82, 3) := by decide +kernel
theorem dX7_supplyFor_20 : decode cX7_supplyFor 20 = .ok (.iconst 1, 1) := by decide +kernel
theorem dX7_supplyFor_21 : decode cX7_supplyFor 21 = .ok (.istore_n 2, 1) := by decide +kernel
theorem dX7_supplyFor_22 : decode cX7_supplyFor 22 = .ok (.iload_n 2, 1) := by decide +kernel
theorem dX7_supplyFor_23 : decode cX7_supplyFor 23 = .ok (.bipush 30, 2) := by decide +kernel
theorem dX7_supplyFor_25 : decode cX7_supplyFor 25 = .ok (.if_icmp .gt 37, 3) := by decide +kernel
theorem dX7_supplyFor_28 : decode cX7_supplyFor 28 = .ok (.aload_n 0, 1) := by decide +kernel
theorem dX7_supplyFor_29 : decode cX7_supplyFor 29 = .ok (.getfield 50, 3) := by decide +kernel
theorem dX7_supplyFor_32 : decode cX7_supplyFor 32 = .ok (.iload_n 2, 1) := by decide +kernel
theorem dX7_supplyFor_33 : decode cX7_supplyFor 33 = .ok (.putfield 191, 3) := by decide +kernel
theorem dX7_supplyFor_36 : decode cX7_supplyFor 36 = .ok (.aload_n 0, 1) := by decide +kernel
theorem dX7_supplyFor_37 : decode cX7_supplyFor 37 = .ok (.getfield 47, 3) := by decide +kernel
theorem dX7_supplyFor_40 : decode cX7_supplyFor 40 = .ok (.invokevirtual 294, 3) := by decide +kernel
theorem dX7_supplyFor_43 : decode cX7_supplyFor 43 = .ok (.aload_n 0, 1) := by decide +kernel
theorem dX7_supplyFor_44 : decode cX7_supplyFor 44 = .ok (.getfield 47, 3) := by decide +kernel
theorem dX7_supplyFor_47 : decode cX7_supplyFor 47 = .ok (.getfield 158, 3) := by decide +kernel
theorem dX7_supplyFor_50 : decode cX7_supplyFor 50 = .ok (.iload_n 1, 1) := by decide +kernel
theorem dX7_supplyFor_51 : decode cX7_supplyFor 51 = .ok (.if_icmp .gt 5, 3) := by decide +kernel
theorem dX7_supplyFor_54 : decode cX7_supplyFor 54 = .ok (.iload_n 2, 1) := by decide +kernel
theorem dX7_supplyFor_55 : decode cX7_supplyFor 55 = .ok (.ireturn, 1) := by decide +kernel
theorem dX7_supplyFor_56 : decode cX7_supplyFor 56 = .ok (.iinc 2 1, 3) := by decide +kernel
theorem dX7_supplyFor_59 : decode cX7_supplyFor 59 = .ok (.goto (-37), 3) := by decide +kernel
theorem dX7_supplyFor_62 : decode cX7_supplyFor 62 = .ok (.bipush (-2), 2) := by decide +kernel
theorem dX7_supplyFor_64 : decode cX7_supplyFor 64 = .ok (.ireturn, 1) := by decide +kernel
theorem dX7_valueFor_0 : decode cX7_valueFor 0 = .ok (.aload_n 0, 1) := by decide +kernel
theorem dX7_valueFor_1 : decode cX7_valueFor 1 = .ok (.getfield 32, 3) := by decide +kernel
theorem dX7_valueFor_4 : decode cX7_valueFor 4 = .ok (.iload_n 1, 1) := by decide +kernel
theorem dX7_valueFor_5 : decode cX7_valueFor 5 = .ok (.invokevirtual 104, 3) := by decide +kernel
theorem dX7_valueFor_8 : decode cX7_valueFor 8 = .ok (.ifCond .eq 17, 3) := by decide +kernel
theorem dX7_valueFor_11 : decode cX7_valueFor 11 = .ok (.aload_n 0, 1) := by decide +kernel
theorem dX7_valueFor_12 : decode cX7_valueFor 12 = .ok (.getfield 32, 3) := by decide +kernel
theorem dX7_valueFor_15 : decode cX7_valueFor 15 = .ok (.getfield 113, 3) := by decide +kernel
theorem dX7_valueFor_18 : decode cX7_valueFor 18 = .ok (.iload_n 1, 1) := by decide +kernel
theorem dX7_valueFor_19 : decode cX7_valueFor 19 = .ok (.iaload, 1) := by decide +kernel
theorem dX7_valueFor_20 : decode cX7_valueFor 20 = .ok (.bipush 8, 2) := by decide +kernel
theorem dX7_valueFor_22 : decode cX7_valueFor 22 = .ok (.if_icmp .lt 5, 3) := by decide +kernel
theorem dX7_valueFor_25 : decode cX7_valueFor 25 = .ok (.iconst (-1), 1) := by decide +kernel
theorem dX7_valueFor_26 : decode cX7_valueFor 26 = .ok (.ireturn, 1) := by decide +kernel
theorem dX7_valueFor_27 : decode cX7_valueFor 27 = .ok (.aload_n 0, 1) := by decide +kernel
theorem dX7_valueFor_28 : decode cX7_valueFor 28 = .ok (.invokevirtual 154, 3) := by decide +kernel
theorem dX7_valueFor_31 : decode cX7_valueFor 31 = .ok (.getfield 172, 3) := by decide +kernel
theorem dX7_valueFor_34 : decode cX7_valueFor 34 = .ok (.iload_n 1, 1) := by decide +kernel
theorem dX7_valueFor_35 : decode cX7_valueFor 35 = .ok (.iaload, 1) := by decide +kernel
theorem dX7_valueFor_36 : decode cX7_valueFor 36 = .ok (.istore_n 2, 1) := by decide +kernel
theorem dX7_valueFor_37 : decode cX7_valueFor 37 = .ok (.iconst 0, 1) := by decide +kernel
theorem dX7_valueFor_38 : decode cX7_valueFor 38 = .ok (.istore_n 3, 1) := by decide +kernel
theorem dX7_valueFor_39 : decode cX7_valueFor 39 = .ok (.iload_n 3, 1) := by decide +kernel
theorem dX7_valueFor_40 : decode cX7_valueFor 40 = .ok (.bipush 99, 2) := by decide +kernel
theorem dX7_valueFor_42 : decode cX7_valueFor 42 = .ok (.if_icmp .gt 51, 3) := by decide +kernel
theorem dX7_valueFor_45 : decode cX7_valueFor 45 = .ok (.aload_n 0, 1) := by decide +kernel
theorem dX7_valueFor_46 : decode cX7_valueFor 46 = .ok (.getfield 50, 3) := by decide +kernel
theorem dX7_valueFor_49 : decode cX7_valueFor 49 = .ok (.aload_n 0, 1) := by decide +kernel
theorem dX7_valueFor_50 : decode cX7_valueFor 50 = .ok (.getfield 32, 3) := by decide +kernel
theorem dX7_valueFor_53 : decode cX7_valueFor 53 = .ok (.invokevirtual 82, 3) := by decide +kernel
theorem dX7_valueFor_56 : decode cX7_valueFor 56 = .ok (.aload_n 0, 1) := by decide +kernel
theorem dX7_valueFor_57 : decode cX7_valueFor 57 = .ok (.getfield 50, 3) := by decide +kernel
theorem dX7_valueFor_60 : decode cX7_valueFor 60 = .ok (.iload_n 1, 1) := by decide +kernel
theorem dX7_valueFor_61 : decode cX7_valueFor 61 = .ok (.iload_n 3, 1) := by decide +kernel
theorem dX7_valueFor_62 : decode cX7_valueFor 62 = .ok (.invokevirtual 117, 3) := by decide +kernel
theorem dX7_valueFor_65 : decode cX7_valueFor 65 = .ok (.aload_n 0, 1) := by decide +kernel
theorem dX7_valueFor_66 : decode cX7_valueFor 66 = .ok (.getfield 47, 3) := by decide +kernel
theorem dX7_valueFor_69 : decode cX7_valueFor 69 = .ok (.invokevirtual 294, 3) := by decide +kernel
theorem dX7_valueFor_72 : decode cX7_valueFor 72 = .ok (.aload_n 0, 1) := by decide +kernel
theorem dX7_valueFor_73 : decode cX7_valueFor 73 = .ok (.getfield 47, 3) := by decide +kernel
theorem dX7_valueFor_76 : decode cX7_valueFor 76 = .ok (.getfield 172, 3) := by decide +kernel
theorem dX7_valueFor_79 : decode cX7_valueFor 79 = .ok (.iload_n 1, 1) := by decide +kernel
theorem dX7_valueFor_80 : decode cX7_valueFor 80 = .ok (.iaload, 1) := by decide +kernel
theorem dX7_valueFor_81 : decode cX7_valueFor 81 = .ok (.iload_n 2, 1) := by decide +kernel
theorem dX7_valueFor_82 : decode cX7_valueFor 82 = .ok (.if_icmp .le 5, 3) := by decide +kernel
theorem dX7_valueFor_85 : decode cX7_valueFor 85 = .ok (.iload_n 3, 1) := by decide +kernel
theorem dX7_valueFor_86 : decode cX7_valueFor 86 = .ok (.ireturn, 1) := by decide +kernel
theorem dX7_valueFor_87 : decode cX7_valueFor 87 = .ok (.iinc 3 1, 3) := by decide +kernel
theorem dX7_valueFor_90 : decode cX7_valueFor 90 = .ok (.goto (-51), 3) := by decide +kernel
theorem dX7_valueFor_93 : decode cX7_valueFor 93 = .ok (.bipush (-2), 2) := by decide +kernel
theorem dX7_valueFor_95 : decode cX7_valueFor 95 = .ok (.ireturn, 1) := by decide +kernel
theorem dX7_spell_0 : decode cX7_spell 0 = .ok (.iload_n 1, 1) := by decide +kernel
theorem dX7_spell_1 : decode cX7_spell 1 = .ok (.iconst (-1), 1) := by decide +kernel
theorem dX7_spell_2 : decode cX7_spell 2 = .ok (.if_icmp .ge 5, 3) := by decide +kernel
theorem dX7_spell_5 : decode cX7_spell 5 = .ok (.iconst (-1), 1) := by decide +kernel
theorem dX7_spell_6 : decode cX7_spell 6 = .ok (.ireturn, 1) := by decide +kernel
theorem dX7_spell_7 : decode cX7_spell 7 = .ok (.aload_n 0, 1) := by decide +kernel
theorem dX7_spell_8 : decode cX7_spell 8 = .ok (.getfield 56, 3) := by decide +kernel
theorem dX7_spell_11 : decode cX7_spell 11 = .ok (.iload_n 1, 1) := by decide +kernel
theorem dX7_spell_12 : decode cX7_spell 12 = .ok (.invokevirtual 317, 3) := by decide +kernel
theorem dX7_spell_15 : decode cX7_spell 15 = .ok (.aload_n 0, 1) := by decide +kernel
theorem dX7_spell_16 : decode cX7_spell 16 = .ok (.getfield 56, 3) := by decide +kernel
theorem dX7_spell_19 : decode cX7_spell 19 = .ok (.ldc_w 320, 3) := by decide +kernel
theorem dX7_spell_22 : decode cX7_spell 22 = .ok (.aload_n 0, 1) := by decide +kernel
theorem dX7_spell_23 : decode cX7_spell 23 = .ok (.getfield 32, 3) := by decide +kernel
theorem dX7_spell_26 : decode cX7_spell 26 = .ok (.getfield 191, 3) := by decide +kernel
theorem dX7_spell_29 : decode cX7_spell 29 = .ok (.invokevirtual 322, 3) := by decide +kernel
theorem dX7_spell_32 : decode cX7_spell 32 = .ok (.aload_n 0, 1) := by decide +kernel
theorem dX7_spell_33 : decode cX7_spell 33 = .ok (.getfield 56, 3) := by decide +kernel
theorem dX7_spell_36 : decode cX7_spell 36 = .ok (.ldc_w 326, 3) := by decide +kernel
theorem dX7_spell_39 : decode cX7_spell 39 = .ok (.aload_n 0, 1) := by decide +kernel
theorem dX7_spell_40 : decode cX7_spell 40 = .ok (.getfield 32, 3) := by decide +kernel
theorem dX7_spell_43 : decode cX7_spell 43 = .ok (.getfield 194, 3) := by decide +kernel
theorem dX7_spell_46 : decode cX7_spell 46 = .ok (.invokevirtual 322, 3) := by decide +kernel
theorem dX7_spell_49 : decode cX7_spell 49 = .ok (.iconst 0, 1) := by decide +kernel
theorem dX7_spell_50 : decode cX7_spell 50 = .ok (.istore_n 2, 1) := by decide +kernel
theorem dX7_spell_51 : decode cX7_spell 51 = .ok (.iload_n 2, 1) := by decide +kernel
theorem dX7_spell_52 : decode cX7_spell 52 = .ok (.aload_n 0, 1) := by decide +kernel
theorem dX7_spell_53 : decode cX7_spell 53 = .ok (.getfield 32, 3) := by decide +kernel
theorem dX7_spell_56 : decode cX7_spell 56 = .ok (.getfield 94, 3) := by decide +kernel
theorem dX7_spell_59 : decode cX7_spell 59 = .ok (.if_icmp .ge 14, 3) := by decide +kernel
theorem dX7_spell_62 : decode cX7_spell 62 = .ok (.aload_n 0, 1) := by decide +kernel
theorem dX7_spell_63 : decode cX7_spell 63 = .ok (.iload_n 2, 1) := by decide +kernel
theorem dX7_spell_64 : decode cX7_spell 64 = .ok (.invokevirtual 328, 3) := by decide +kernel
theorem dX7_spell_67 : decode cX7_spell 67 = .ok (.iinc 2 1, 3) := by decide +kernel
theorem dX7_spell_70 : decode cX7_spell 70 = .ok (.goto (-19), 3) := by decide +kernel
theorem dX7_spell_73 : decode cX7_spell 73 = .ok (.aload_n 0, 1) := by decide +kernel
theorem dX7_spell_74 : decode cX7_spell 74 = .ok (.getfield 56, 3) := by decide +kernel
theorem dX7_spell_77 : decode cX7_spell 77 = .ok (.invokevirtual 331, 3) := by decide +kernel
theorem dX7_spell_80 : decode cX7_spell 80 = .ok (.ireturn, 1) := by decide +kernel
theorem dX7_report_0 : decode cX7_report 0 = .ok (.iload_n 1, 1) := by decide +kernel
theorem dX7_report_1 : decode cX7_report 1 = .ok (.invokestatic 151, 3) := by decide +kernel
theorem dX7_report_4 : decode cX7_report 4 = .ok (.ifCond .eq 8, 3) := by decide +kernel
theorem dX7_report_7 : decode cX7_report 7 = .ok (.iload_n 2, 1) := by decide +kernel
theorem dX7_report_8 : decode cX7_report 8 = .ok (.iconst (-1), 1) := by decide +kernel
theorem dX7_report_9 : decode cX7_report 9 = .ok (.if_icmp .ge 5, 3) := by decide +kernel
theorem dX7_report_12 : decode cX7_report 12 = .ok (.iconst (-1), 1) := by decide +kernel
theorem dX7_report_13 : decode cX7_report 13 = .ok (.ireturn, 1) := by decide +kernel
theorem dX7_report_14 : decode cX7_report 14 = .ok (.aload_n 0, 1) := by decide +kernel
theorem dX7_report_15 : decode cX7_report 15 = .ok (.invokevirtual 154, 3) := by decide +kernel
theorem dX7_report_18 : decode cX7_report 18 = .ok (.astore_n 3, 1) := by decide +kernel
theorem dX7_report_19 : decode cX7_report 19 = .ok (.aload_n 0, 1) := by decide +kernel
theorem dX7_report_20 : decode cX7_report 20 = .ok (.getfield 56, 3) := by decide +kernel
theorem dX7_report_23 : decode cX7_report 23 = .ok (.iload_n 2, 1) := by decide +kernel
theorem dX7_report_24 : decode cX7_report 24 = .ok (.invokevirtual 317, 3) := by decide +kernel
theorem dX7_report_27 : decode cX7_report 27 = .ok (.aload_n 0, 1) := by decide +kernel
theorem dX7_report_28 : decode cX7_report 28 = .ok (.getfield 56, 3) := by decide +kernel
theorem dX7_report_31 : decode cX7_report 31 = .ok (.ldc_w 334, 3) := by decide +kernel
theorem dX7_report_34 : decode cX7_report 34 = .ok (.aload_n 3, 1) := by decide +kernel
theorem dX7_report_35 : decode cX7_report 35 = .ok (.getfield 158, 3) := by decide +kernel
theorem dX7_report_38 : decode cX7_report 38 = .ok (.invokevirtual 322, 3) := by decide +kernel
theorem dX7_report_41 : decode cX7_report 41 = .ok (.iconst 0, 1) := by decide +kernel
theorem dX7_report_42 : decode cX7_report 42 = .ok (.istore 4, 2) := by decide +kernel
theorem dX7_report_44 : decode cX7_report 44 = .ok (.iload 4, 2) := by decide +kernel
theorem dX7_report_46 : decode cX7_report 46 = .ok (.aload_n 0, 1) := by decide +kernel
theorem dX7_report_47 : decode cX7_report 47 = .ok (.getfield 32, 3) := by decide +kernel
theorem dX7_report_50 : decode cX7_report 50 = .ok (.getfield 94, 3) := by decide +kernel
theorem dX7_report_53 : decode cX7_report 53 = .ok (.if_icmp .ge 69, 3) := by decide +kernel
theorem dX7_report_56 : decode cX7_report 56 = .ok (.aload_n 3, 1) := by decide +kernel
theorem dX7_report_57 : decode cX7_report 57 = .ok (.getfield 172, 3) := by decide +kernel
theorem dX7_report_60 : decode cX7_report 60 = .ok (.iload 4, 2) := by decide +kernel
theorem dX7_report_62 : decode cX7_report 62 = .ok (.iaload, 1) := by decide +kernel
theorem dX7_report_63 : decode cX7_report 63 = .ok (.ifCond .le 53, 3) := by decide +kernel
theorem dX7_report_66 : decode cX7_report 66 = .ok (.aload_n 0, 1) := by decide +kernel
theorem dX7_report_67 : decode cX7_report 67 = .ok (.getfield 56, 3) := by decide +kernel
theorem dX7_report_70 : decode cX7_report 70 = .ok (.iload 4, 2) := by decide +kernel
theorem dX7_report_72 : decode cX7_report 72 = .ok (.invokevirtual 336, 3) := by decide +kernel
theorem dX7_report_75 : decode cX7_report 75 = .ok (.aload_n 0, 1) := by decide +kernel
theorem dX7_report_76 : decode cX7_report 76 = .ok (.getfield 56, 3) := by decide +kernel
theorem dX7_report_79 : decode cX7_report 79 = .ok (.ldc_w 339, 3) := by decide +kernel
theorem dX7_report_82 : decode cX7_report 82 = .ok (.invokevirtual 341, 3) := by decide +kernel
theorem dX7_report_85 : decode cX7_report 85 = .ok (.aload_n 0, 1) := by decide +kernel
theorem dX7_report_86 : decode cX7_report 86 = .ok (.getfield 56, 3) := by decide +kernel
theorem dX7_report_89 : decode cX7_report 89 = .ok (.aload_n 3, 1) := by decide +kernel
theorem dX7_report_90 : decode cX7_report 90 = .ok (.getfield 172, 3) := by decide +kernel
theorem dX7_report_93 : decode cX7_report 93 = .ok (.iload 4, 2) := by decide +kernel
theorem dX7_report_95 : decode cX7_report 95 = .ok (.iaload, 1) := by decide +kernel
theorem dX7_report_96 : decode cX7_report 96 = .ok (.invokevirtual 336, 3) := by decide +kernel
theorem dX7_report_99 : decode cX7_report 99 = .ok (.aload_n 0, 1) := by decide +kernel
theorem dX7_report_100 : decode cX7_report 100 = .ok (.getfield 56, 3) := by decide +kernel
theorem dX7_report_103 : decode cX7_report 103 = .ok (.ldc_w 345, 3) := by decide +kernel
theorem dX7_report_106 : decode cX7_report 106 = .ok (.aload_n 3, 1) := by decide +kernel
theorem dX7_report_107 : decode cX7_report 107 = .ok (.iload 4, 2) := by decide +kernel
theorem dX7_report_109 : decode cX7_report 109 = .ok (.iload_n 1, 1) := by decide +kernel
theorem dX7_report_110 : decode cX7_report 110 = .ok (.invokevirtual 210, 3) := by decide +kernel
theorem dX7_report_113 : decode cX7_report 113 = .ok (.invokevirtual 322, 3) := by decide +kernel
theorem dX7_report_116 : decode cX7_report 116 = .ok (.iinc 4 1, 3) := by decide +kernel
theorem dX7_report_119 : decode cX7_report 119 = .ok (.goto (-75), 3) := by decide +kernel
theorem dX7_report_122 : decode cX7_report 122 = .ok (.aload_n 0, 1) := by decide +kernel
theorem dX7_report_123 : decode cX7_report 123 = .ok (.getfield 56, 3) := by decide +kernel
theorem dX7_report_126 : decode cX7_report 126 = .ok (.ldc_w 347, 3) := by decide +kernel
theorem dX7_report_129 : decode cX7_report 129 = .ok (.aload_n 3, 1) := by decide +kernel
theorem dX7_report_130 : decode cX7_report 130 = .ok (.invokevirtual 283, 3) := by decide +kernel
theorem dX7_report_133 : decode cX7_report 133 = .ok (.invokevirtual 322, 3) := by decide +kernel
theorem dX7_report_136 : decode cX7_report 136 = .ok (.aload_n 0, 1) := by decide +kernel
theorem dX7_report_137 : decode cX7_report 137 = .ok (.getfield 56, 3) := by decide +kernel
theorem dX7_report_140 : decode cX7_report 140 = .ok (.invokevirtual 331, 3) := by decide +kernel
theorem dX7_report_143 : decode cX7_report 143 = .ok (.ireturn, 1) := by decide +kernel
theorem dX7_count_0 : decode cX7_count 0 = .ok (.iload_n 1, 1) := by decide +kernel
theorem dX7_count_1 : decode cX7_count 1 = .ok (.tableswitch 151 0 9 #[55, 63, 71, 79, 87, 95, 103, 127, 135, 143], 55) := by decide +kernel
theorem dX7_count_56 : decode cX7_count 56 = .ok (.aload_n 0, 1) := by decide +kernel
theorem dX7_count_57 : decode cX7_count 57 = .ok (.getfield 32, 3) := by decide +kernel
theorem dX7_count_60 : decode cX7_count 60 = .ok (.getfield 94, 3) := by decide +kernel
theorem dX7_count_63 : decode cX7_count 63 = .ok (.ireturn, 1) := by decide +kernel
theorem dX7_count_64 : decode cX7_count 64 = .ok (.aload_n 0, 1) := by decide +kernel
theorem dX7_count_65 : decode cX7_count 65 = .ok (.getfield 32, 3) := by decide +kernel
theorem dX7_count_68 : decode cX7_count 68 = .ok (.getfield 191, 3) := by decide +kernel
theorem dX7_count_71 : decode cX7_count 71 = .ok (.ireturn, 1) := by decide +kernel
theorem dX7_count_72 : decode cX7_count 72 = .ok (.aload_n 0, 1) := by decide +kernel
theorem dX7_count_73 : decode cX7_count 73 = .ok (.getfield 32, 3) := by decide +kernel
theorem dX7_count_76 : decode cX7_count 76 = .ok (.getfield 194, 3) := by decide +kernel
theorem dX7_count_79 : decode cX7_count 79 = .ok (.ireturn, 1) := by decide +kernel
theorem dX7_count_80 : decode cX7_count 80 = .ok (.aload_n 0, 1) := by decide +kernel
theorem dX7_count_81 : decode cX7_count 81 = .ok (.getfield 32, 3) := by decide +kernel
theorem dX7_count_84 : decode cX7_count 84 = .ok (.invokevirtual 257, 3) := by decide +kernel
theorem dX7_count_87 : decode cX7_count 87 = .ok (.ireturn, 1) := by decide +kernel
theorem dX7_count_88 : decode cX7_count 88 = .ok (.aload_n 0, 1) := by decide +kernel
theorem dX7_count_89 : decode cX7_count 89 = .ok (.getfield 43, 3) := by decide +kernel
theorem dX7_count_92 : decode cX7_count 92 = .ok (.getfield 91, 3) := by decide +kernel
theorem dX7_count_95 : decode cX7_count 95 = .ok (.ireturn, 1) := by decide +kernel
theorem dX7_count_96 : decode cX7_count 96 = .ok (.aload_n 0, 1) := by decide +kernel
theorem dX7_count_97 : decode cX7_count 97 = .ok (.getfield 20, 3) := by decide +kernel
theorem dX7_count_100 : decode cX7_count 100 = .ok (.getfield 74, 3) := by decide +kernel
theorem dX7_count_103 : decode cX7_count 103 = .ok (.ireturn, 1) := by decide +kernel
theorem dX7_count_104 : decode cX7_count 104 = .ok (.aload_n 0, 1) := by decide +kernel
theorem dX7_count_105 : decode cX7_count 105 = .ok (.getfield 32, 3) := by decide +kernel
theorem dX7_count_108 : decode cX7_count 108 = .ok (.invokevirtual 257, 3) := by decide +kernel
theorem dX7_count_111 : decode cX7_count 111 = .ok (.ifCond .ne 8, 3) := by decide +kernel
theorem dX7_count_114 : decode cX7_count 114 = .ok (.bipush (-2), 2) := by decide +kernel
theorem dX7_count_116 : decode cX7_count 116 = .ok (.goto 11, 3) := by decide +kernel
theorem dX7_count_119 : decode cX7_count 119 = .ok (.aload_n 0, 1) := by decide +kernel
theorem dX7_count_120 : decode cX7_count 120 = .ok (.getfield 32, 3) := by decide +kernel
theorem dX7_count_123 : decode cX7_count 123 = .ok (.iconst 0, 1) := by decide +kernel
theorem dX7_count_124 : decode cX7_count 124 = .ok (.invokevirtual 263, 3) := by decide +kernel
theorem dX7_count_127 : decode cX7_count 127 = .ok (.ireturn, 1) := by decide +kernel
theorem dX7_count_128 : decode cX7_count 128 = .ok (.aload_n 0, 1) := by decide +kernel
theorem dX7_count_129 : decode cX7_count 129 = .ok (.getfield 36, 3) := by decide +kernel
theorem dX7_count_132 : decode cX7_count 132 = .ok (.getfield 88, 3) := by decide +kernel
theorem dX7_count_135 : decode cX7_count 135 = .ok (.ireturn, 1) := by decide +kernel
theorem dX7_count_136 : decode cX7_count 136 = .ok (.aload_n 0, 1) := by decide +kernel
theorem dX7_count_137 : decode cX7_count 137 = .ok (.getfield 32, 3) := by decide +kernel
theorem dX7_count_140 : decode cX7_count 140 = .ok (.invokevirtual 349, 3) := by decide +kernel
theorem dX7_count_143 : decode cX7_count 143 = .ok (.ireturn, 1) := by decide +kernel
theorem dX7_count_144 : decode cX7_count 144 = .ok (.aload_n 0, 1) := by decide +kernel
theorem dX7_count_145 : decode cX7_count 145 = .ok (.getfield 32, 3) := by decide +kernel
theorem dX7_count_148 : decode cX7_count 148 = .ok (.invokevirtual 352, 3) := by decide +kernel
theorem dX7_count_151 : decode cX7_count 151 = .ok (.ireturn, 1) := by decide +kernel
theorem dX7_count_152 : decode cX7_count 152 = .ok (.iconst (-1), 1) := by decide +kernel
theorem dX7_count_153 : decode cX7_count 153 = .ok (.ireturn, 1) := by decide +kernel
theorem dX7_isKind_0 : decode cX7_isKind 0 = .ok (.iload_n 0, 1) := by decide +kernel
theorem dX7_isKind_1 : decode cX7_isKind 1 = .ok (.ifCond .lt 12, 3) := by decide +kernel
theorem dX7_isKind_4 : decode cX7_isKind 4 = .ok (.iload_n 0, 1) := by decide +kernel
theorem dX7_isKind_5 : decode cX7_isKind 5 = .ok (.iconst 3, 1) := by decide +kernel
theorem dX7_isKind_6 : decode cX7_isKind 6 = .ok (.if_icmp .gt 7, 3) := by decide +kernel
theorem dX7_isKind_9 : decode cX7_isKind 9 = .ok (.iconst 1, 1) := by decide +kernel
theorem dX7_isKind_10 : decode cX7_isKind 10 = .ok (.goto 4, 3) := by decide +kernel
theorem dX7_isKind_13 : decode cX7_isKind 13 = .ok (.iconst 0, 1) := by decide +kernel
theorem dX7_isKind_14 : decode cX7_isKind 14 = .ok (.ireturn, 1) := by decide +kernel
theorem dX7_isPrice_0 : decode cX7_isPrice 0 = .ok (.iload_n 0, 1) := by decide +kernel
theorem dX7_isPrice_1 : decode cX7_isPrice 1 = .ok (.ifCond .lt 13, 3) := by decide +kernel
theorem dX7_isPrice_4 : decode cX7_isPrice 4 = .ok (.iload_n 0, 1) := by decide +kernel
theorem dX7_isPrice_5 : decode cX7_isPrice 5 = .ok (.bipush 99, 2) := by decide +kernel
theorem dX7_isPrice_7 : decode cX7_isPrice 7 = .ok (.if_icmp .gt 7, 3) := by decide +kernel
theorem dX7_isPrice_10 : decode cX7_isPrice 10 = .ok (.iconst 1, 1) := by decide +kernel
theorem dX7_isPrice_11 : decode cX7_isPrice 11 = .ok (.goto 4, 3) := by decide +kernel
theorem dX7_isPrice_14 : decode cX7_isPrice 14 = .ok (.iconst 0, 1) := by decide +kernel
theorem dX7_isPrice_15 : decode cX7_isPrice 15 = .ok (.ireturn, 1) := by decide +kernel
theorem dX7_isSupply_0 : decode cX7_isSupply 0 = .ok (.iload_n 0, 1) := by decide +kernel
theorem dX7_isSupply_1 : decode cX7_isSupply 1 = .ok (.iconst 1, 1) := by decide +kernel
theorem dX7_isSupply_2 : decode cX7_isSupply 2 = .ok (.if_icmp .lt 13, 3) := by decide +kernel
theorem dX7_isSupply_5 : decode cX7_isSupply 5 = .ok (.iload_n 0, 1) := by decide +kernel
theorem dX7_isSupply_6 : decode cX7_isSupply 6 = .ok (.bipush 30, 2) := by decide +kernel
theorem dX7_isSupply_8 : decode cX7_isSupply 8 = .ok (.if_icmp .gt 7, 3) := by decide +kernel
theorem dX7_isSupply_11 : decode cX7_isSupply 11 = .ok (.iconst 1, 1) := by decide +kernel
theorem dX7_isSupply_12 : decode cX7_isSupply 12 = .ok (.goto 4, 3) := by decide +kernel
theorem dX7_isSupply_15 : decode cX7_isSupply 15 = .ok (.iconst 0, 1) := by decide +kernel
theorem dX7_isSupply_16 : decode cX7_isSupply 16 = .ok (.ireturn, 1) := by decide +kernel
theorem dX7_placeWithout_0 : decode cX7_placeWithout 0 = .ok (.iload_n 1, 1) := by decide +kernel
theorem dX7_placeWithout_1 : decode cX7_placeWithout 1 = .ok (.iload_n 0, 1) := by decide +kernel
theorem dX7_placeWithout_2 : decode cX7_placeWithout 2 = .ok (.if_icmp .ge 9, 3) := by decide +kernel
theorem dX7_placeWithout_5 : decode cX7_placeWithout 5 = .ok (.iload_n 0, 1) := by decide +kernel
theorem dX7_placeWithout_6 : decode cX7_placeWithout 6 = .ok (.iconst 1, 1) := by decide +kernel
theorem dX7_placeWithout_7 : decode cX7_placeWithout 7 = .ok (.isub, 1) := by decide +kernel
theorem dX7_placeWithout_8 : decode cX7_placeWithout 8 = .ok (.goto 4, 3) := by decide +kernel
theorem dX7_placeWithout_11 : decode cX7_placeWithout 11 = .ok (.iload_n 0, 1) := by decide +kernel
theorem dX7_placeWithout_12 : decode cX7_placeWithout 12 = .ok (.ireturn, 1) := by decide +kernel
theorem dX7_remember_0 : decode cX7_remember 0 = .ok (.aload_n 0, 1) := by decide +kernel
theorem dX7_remember_1 : decode cX7_remember 1 = .ok (.getfield 43, 3) := by decide +kernel
theorem dX7_remember_4 : decode cX7_remember 4 = .ok (.aload_n 0, 1) := by decide +kernel
theorem dX7_remember_5 : decode cX7_remember 5 = .ok (.getfield 32, 3) := by decide +kernel
theorem dX7_remember_8 : decode cX7_remember 8 = .ok (.aload_n 0, 1) := by decide +kernel
theorem dX7_remember_9 : decode cX7_remember 9 = .ok (.getfield 36, 3) := by decide +kernel
theorem dX7_remember_12 : decode cX7_remember 12 = .ok (.invokevirtual 355, 3) := by decide +kernel
theorem dX7_remember_15 : decode cX7_remember 15 = .ok (.aload_n 0, 1) := by decide +kernel
theorem dX7_remember_16 : decode cX7_remember 16 = .ok (.iconst 1, 1) := by decide +kernel
theorem dX7_remember_17 : decode cX7_remember 17 = .ok (.putfield 60, 3) := by decide +kernel
theorem dX7_remember_20 : decode cX7_remember 20 = .ok (.return_, 1) := by decide +kernel
theorem dX7_now_0 : decode cX7_now 0 = .ok (.aload_n 0, 1) := by decide +kernel
theorem dX7_now_1 : decode cX7_now 1 = .ok (.getfield 60, 3) := by decide +kernel
theorem dX7_now_4 : decode cX7_now 4 = .ok (.ifCond .eq 15, 3) := by decide +kernel
theorem dX7_now_7 : decode cX7_now 7 = .ok (.aload_n 0, 1) := by decide +kernel
theorem dX7_now_8 : decode cX7_now 8 = .ok (.getfield 24, 3) := by decide +kernel
theorem dX7_now_11 : decode cX7_now 11 = .ok (.invokevirtual 294, 3) := by decide +kernel
theorem dX7_now_14 : decode cX7_now 14 = .ok (.aload_n 0, 1) := by decide +kernel
theorem dX7_now_15 : decode cX7_now 15 = .ok (.iconst 0, 1) := by decide +kernel
theorem dX7_now_16 : decode cX7_now 16 = .ok (.putfield 60, 3) := by decide +kernel
theorem dX7_now_19 : decode cX7_now 19 = .ok (.aload_n 0, 1) := by decide +kernel
theorem dX7_now_20 : decode cX7_now 20 = .ok (.getfield 24, 3) := by decide +kernel
theorem dX7_now_23 : decode cX7_now 23 = .ok (.areturn, 1) := by decide +kernel
theorem dX7_supposeReserve_0 : decode cX7_supposeReserve 0 = .ok (.aload_n 0, 1) := by decide +kernel
theorem dX7_supposeReserve_1 : decode cX7_supposeReserve 1 = .ok (.getfield 50, 3) := by decide +kernel
theorem dX7_supposeReserve_4 : decode cX7_supposeReserve 4 = .ok (.aload_n 0, 1) := by decide +kernel
theorem dX7_supposeReserve_5 : decode cX7_supposeReserve 5 = .ok (.getfield 32, 3) := by decide +kernel
theorem dX7_supposeReserve_8 : decode cX7_supposeReserve 8 = .ok (.invokevirtual 82, 3) := by decide +kernel
theorem dX7_supposeReserve_11 : decode cX7_supposeReserve 11 = .ok (.aload_n 0, 1) := by decide +kernel
theorem dX7_supposeReserve_12 : decode cX7_supposeReserve 12 = .ok (.getfield 50, 3) := by decide +kernel
theorem dX7_supposeReserve_15 : decode cX7_supposeReserve 15 = .ok (.iload_n 1, 1) := by decide +kernel
theorem dX7_supposeReserve_16 : decode cX7_supposeReserve 16 = .ok (.putfield 194, 3) := by decide +kernel
theorem dX7_supposeReserve_19 : decode cX7_supposeReserve 19 = .ok (.aload_n 0, 1) := by decide +kernel
theorem dX7_supposeReserve_20 : decode cX7_supposeReserve 20 = .ok (.getfield 47, 3) := by decide +kernel
theorem dX7_supposeReserve_23 : decode cX7_supposeReserve 23 = .ok (.invokevirtual 294, 3) := by decide +kernel
theorem dX7_supposeReserve_26 : decode cX7_supposeReserve 26 = .ok (.return_, 1) := by decide +kernel
theorem dX7_supposeWithout_0 : decode cX7_supposeWithout 0 = .ok (.aload_n 0, 1) := by decide +kernel
theorem dX7_supposeWithout_1 : decode cX7_supposeWithout 1 = .ok (.getfield 50, 3) := by decide +kernel
theorem dX7_supposeWithout_4 : decode cX7_supposeWithout 4 = .ok (.aload_n 0, 1) := by decide +kernel
theorem dX7_supposeWithout_5 : decode cX7_supposeWithout 5 = .ok (.getfield 32, 3) := by decide +kernel
theorem dX7_supposeWithout_8 : decode cX7_supposeWithout 8 = .ok (.invokevirtual 82, 3) := by decide +kernel
theorem dX7_supposeWithout_11 : decode cX7_supposeWithout 11 = .ok (.aload_n 0, 1) := by decide +kernel
theorem dX7_supposeWithout_12 : decode cX7_supposeWithout 12 = .ok (.getfield 50, 3) := by decide +kernel
theorem dX7_supposeWithout_15 : decode cX7_supposeWithout 15 = .ok (.iload_n 1, 1) := by decide +kernel
theorem dX7_supposeWithout_16 : decode cX7_supposeWithout 16 = .ok (.invokevirtual 107, 3) := by decide +kernel
theorem dX7_supposeWithout_19 : decode cX7_supposeWithout 19 = .ok (.aload_n 0, 1) := by decide +kernel
theorem dX7_supposeWithout_20 : decode cX7_supposeWithout 20 = .ok (.getfield 47, 3) := by decide +kernel
theorem dX7_supposeWithout_23 : decode cX7_supposeWithout 23 = .ok (.invokevirtual 294, 3) := by decide +kernel
theorem dX7_supposeWithout_26 : decode cX7_supposeWithout 26 = .ok (.return_, 1) := by decide +kernel
theorem dX7_gainByTelling_0 : decode cX7_gainByTelling 0 = .ok (.aload_n 0, 1) := by decide +kernel
theorem dX7_gainByTelling_1 : decode cX7_gainByTelling 1 = .ok (.getfield 50, 3) := by decide +kernel
theorem dX7_gainByTelling_4 : decode cX7_gainByTelling 4 = .ok (.aload_n 0, 1) := by decide +kernel
theorem dX7_gainByTelling_5 : decode cX7_gainByTelling 5 = .ok (.getfield 32, 3) := by decide +kernel
theorem dX7_gainByTelling_8 : decode cX7_gainByTelling 8 = .ok (.invokevirtual 82, 3) := by decide +kernel
theorem dX7_gainByTelling_11 : decode cX7_gainByTelling 11 = .ok (.aload_n 0, 1) := by decide +kernel
theorem dX7_gainByTelling_12 : decode cX7_gainByTelling 12 = .ok (.getfield 50, 3) := by decide +kernel
theorem dX7_gainByTelling_15 : decode cX7_gainByTelling 15 = .ok (.getfield 113, 3) := by decide +kernel
theorem dX7_gainByTelling_18 : decode cX7_gainByTelling 18 = .ok (.iload_n 1, 1) := by decide +kernel
theorem dX7_gainByTelling_19 : decode cX7_gainByTelling 19 = .ok (.iload_n 3, 1) := by decide +kernel
theorem dX7_gainByTelling_20 : decode cX7_gainByTelling 20 = .ok (.iastore, 1) := by decide +kernel
theorem dX7_gainByTelling_21 : decode cX7_gainByTelling 21 = .ok (.aload_n 0, 1) := by decide +kernel
theorem dX7_gainByTelling_22 : decode cX7_gainByTelling 22 = .ok (.getfield 47, 3) := by decide +kernel
theorem dX7_gainByTelling_25 : decode cX7_gainByTelling 25 = .ok (.invokevirtual 294, 3) := by decide +kernel
theorem dX7_gainByTelling_28 : decode cX7_gainByTelling 28 = .ok (.aload_n 0, 1) := by decide +kernel
theorem dX7_gainByTelling_29 : decode cX7_gainByTelling 29 = .ok (.getfield 32, 3) := by decide +kernel
theorem dX7_gainByTelling_32 : decode cX7_gainByTelling 32 = .ok (.iload_n 1, 1) := by decide +kernel
theorem dX7_gainByTelling_33 : decode cX7_gainByTelling 33 = .ok (.aload_n 0, 1) := by decide +kernel
theorem dX7_gainByTelling_34 : decode cX7_gainByTelling 34 = .ok (.getfield 47, 3) := by decide +kernel
theorem dX7_gainByTelling_37 : decode cX7_gainByTelling 37 = .ok (.getfield 172, 3) := by decide +kernel
theorem dX7_gainByTelling_40 : decode cX7_gainByTelling 40 = .ok (.iload_n 1, 1) := by decide +kernel
theorem dX7_gainByTelling_41 : decode cX7_gainByTelling 41 = .ok (.iaload, 1) := by decide +kernel
theorem dX7_gainByTelling_42 : decode cX7_gainByTelling 42 = .ok (.invokevirtual 280, 3) := by decide +kernel
theorem dX7_gainByTelling_45 : decode cX7_gainByTelling 45 = .ok (.aload_n 0, 1) := by decide +kernel
theorem dX7_gainByTelling_46 : decode cX7_gainByTelling 46 = .ok (.getfield 47, 3) := by decide +kernel
theorem dX7_gainByTelling_49 : decode cX7_gainByTelling 49 = .ok (.iload_n 1, 1) := by decide +kernel
theorem dX7_gainByTelling_50 : decode cX7_gainByTelling 50 = .ok (.iload_n 2, 1) := by decide +kernel
theorem dX7_gainByTelling_51 : decode cX7_gainByTelling 51 = .ok (.invokevirtual 210, 3) := by decide +kernel
theorem dX7_gainByTelling_54 : decode cX7_gainByTelling 54 = .ok (.isub, 1) := by decide +kernel
theorem dX7_gainByTelling_55 : decode cX7_gainByTelling 55 = .ok (.ireturn, 1) := by decide +kernel
theorem dX7_gainByHiding_0 : decode cX7_gainByHiding 0 = .ok (.aload_n 0, 1) := by decide +kernel
theorem dX7_gainByHiding_1 : decode cX7_gainByHiding 1 = .ok (.getfield 50, 3) := by decide +kernel
theorem dX7_gainByHiding_4 : decode cX7_gainByHiding 4 = .ok (.aload_n 0, 1) := by decide +kernel
theorem dX7_gainByHiding_5 : decode cX7_gainByHiding 5 = .ok (.getfield 32, 3) := by decide +kernel
theorem dX7_gainByHiding_8 : decode cX7_gainByHiding 8 = .ok (.invokevirtual 82, 3) := by decide +kernel
theorem dX7_gainByHiding_11 : decode cX7_gainByHiding 11 = .ok (.aload_n 0, 1) := by decide +kernel
theorem dX7_gainByHiding_12 : decode cX7_gainByHiding 12 = .ok (.getfield 50, 3) := by decide +kernel
theorem dX7_gainByHiding_15 : decode cX7_gainByHiding 15 = .ok (.iload_n 1, 1) := by decide +kernel
theorem dX7_gainByHiding_16 : decode cX7_gainByHiding 16 = .ok (.iload_n 3, 1) := by decide +kernel
theorem dX7_gainByHiding_17 : decode cX7_gainByHiding 17 = .ok (.ineg, 1) := by decide +kernel
theorem dX7_gainByHiding_18 : decode cX7_gainByHiding 18 = .ok (.invokevirtual 182, 3) := by decide +kernel
theorem dX7_gainByHiding_21 : decode cX7_gainByHiding 21 = .ok (.aload_n 0, 1) := by decide +kernel
theorem dX7_gainByHiding_22 : decode cX7_gainByHiding 22 = .ok (.getfield 47, 3) := by decide +kernel
theorem dX7_gainByHiding_25 : decode cX7_gainByHiding 25 = .ok (.invokevirtual 294, 3) := by decide +kernel
theorem dX7_gainByHiding_28 : decode cX7_gainByHiding 28 = .ok (.aload_n 0, 1) := by decide +kernel
theorem dX7_gainByHiding_29 : decode cX7_gainByHiding 29 = .ok (.getfield 32, 3) := by decide +kernel
theorem dX7_gainByHiding_32 : decode cX7_gainByHiding 32 = .ok (.iload_n 1, 1) := by decide +kernel
theorem dX7_gainByHiding_33 : decode cX7_gainByHiding 33 = .ok (.aload_n 0, 1) := by decide +kernel
theorem dX7_gainByHiding_34 : decode cX7_gainByHiding 34 = .ok (.getfield 47, 3) := by decide +kernel
theorem dX7_gainByHiding_37 : decode cX7_gainByHiding 37 = .ok (.getfield 172, 3) := by decide +kernel
theorem dX7_gainByHiding_40 : decode cX7_gainByHiding 40 = .ok (.iload_n 1, 1) := by decide +kernel
theorem dX7_gainByHiding_41 : decode cX7_gainByHiding 41 = .ok (.iaload, 1) := by decide +kernel
theorem dX7_gainByHiding_42 : decode cX7_gainByHiding 42 = .ok (.invokevirtual 280, 3) := by decide +kernel
theorem dX7_gainByHiding_45 : decode cX7_gainByHiding 45 = .ok (.aload_n 0, 1) := by decide +kernel
theorem dX7_gainByHiding_46 : decode cX7_gainByHiding 46 = .ok (.getfield 47, 3) := by decide +kernel
theorem dX7_gainByHiding_49 : decode cX7_gainByHiding 49 = .ok (.iload_n 1, 1) := by decide +kernel
theorem dX7_gainByHiding_50 : decode cX7_gainByHiding 50 = .ok (.iload_n 2, 1) := by decide +kernel
theorem dX7_gainByHiding_51 : decode cX7_gainByHiding 51 = .ok (.invokevirtual 210, 3) := by decide +kernel
theorem dX7_gainByHiding_54 : decode cX7_gainByHiding 54 = .ok (.isub, 1) := by decide +kernel
theorem dX7_gainByHiding_55 : decode cX7_gainByHiding 55 = .ok (.ireturn, 1) := by decide +kernel
theorem dX7_spellBidder_0 : decode cX7_spellBidder 0 = .ok (.aload_n 0, 1) := by decide +kernel
theorem dX7_spellBidder_1 : decode cX7_spellBidder 1 = .ok (.getfield 56, 3) := by decide +kernel
theorem dX7_spellBidder_4 : decode cX7_spellBidder 4 = .ok (.ldc_w 358, 3) := by decide +kernel
theorem dX7_spellBidder_7 : decode cX7_spellBidder 7 = .ok (.invokevirtual 341, 3) := by decide +kernel
theorem dX7_spellBidder_10 : decode cX7_spellBidder 10 = .ok (.iconst 0, 1) := by decide +kernel
theorem dX7_spellBidder_11 : decode cX7_spellBidder 11 = .ok (.istore_n 2, 1) := by decide +kernel
theorem dX7_spellBidder_12 : decode cX7_spellBidder 12 = .ok (.iload_n 2, 1) := by decide +kernel
theorem dX7_spellBidder_13 : decode cX7_spellBidder 13 = .ok (.aload_n 0, 1) := by decide +kernel
theorem dX7_spellBidder_14 : decode cX7_spellBidder 14 = .ok (.getfield 32, 3) := by decide +kernel
theorem dX7_spellBidder_17 : decode cX7_spellBidder 17 = .ok (.getfield 113, 3) := by decide +kernel
theorem dX7_spellBidder_20 : decode cX7_spellBidder 20 = .ok (.iload_n 1, 1) := by decide +kernel
theorem dX7_spellBidder_21 : decode cX7_spellBidder 21 = .ok (.iaload, 1) := by decide +kernel
theorem dX7_spellBidder_22 : decode cX7_spellBidder 22 = .ok (.if_icmp .ge 35, 3) := by decide +kernel
theorem dX7_spellBidder_25 : decode cX7_spellBidder 25 = .ok (.aload_n 0, 1) := by decide +kernel
theorem dX7_spellBidder_26 : decode cX7_spellBidder 26 = .ok (.getfield 56, 3) := by decide +kernel
theorem dX7_spellBidder_29 : decode cX7_spellBidder 29 = .ok (.ldc_w 360, 3) := by decide +kernel
theorem dX7_spellBidder_32 : decode cX7_spellBidder 32 = .ok (.invokevirtual 341, 3) := by decide +kernel
theorem dX7_spellBidder_35 : decode cX7_spellBidder 35 = .ok (.aload_n 0, 1) := by decide +kernel
theorem dX7_spellBidder_36 : decode cX7_spellBidder 36 = .ok (.getfield 56, 3) := by decide +kernel
theorem dX7_spellBidder_39 : decode cX7_spellBidder 39 = .ok (.aload_n 0, 1) := by decide +kernel
theorem dX7_spellBidder_40 : decode cX7_spellBidder 40 = .ok (.getfield 32, 3) := by decide +kernel
theorem dX7_spellBidder_43 : decode cX7_spellBidder 43 = .ok (.iload_n 1, 1) := by decide +kernel
theorem dX7_spellBidder_44 : decode cX7_spellBidder 44 = .ok (.iload_n 2, 1) := by decide +kernel
theorem dX7_spellBidder_45 : decode cX7_spellBidder 45 = .ok (.invokevirtual 131, 3) := by decide +kernel
theorem dX7_spellBidder_48 : decode cX7_spellBidder 48 = .ok (.invokevirtual 336, 3) := by decide +kernel
theorem dX7_spellBidder_51 : decode cX7_spellBidder 51 = .ok (.iinc 2 1, 3) := by decide +kernel
theorem dX7_spellBidder_54 : decode cX7_spellBidder 54 = .ok (.goto (-42), 3) := by decide +kernel
theorem dX7_spellBidder_57 : decode cX7_spellBidder 57 = .ok (.aload_n 0, 1) := by decide +kernel
theorem dX7_spellBidder_58 : decode cX7_spellBidder 58 = .ok (.getfield 32, 3) := by decide +kernel
theorem dX7_spellBidder_61 : decode cX7_spellBidder 61 = .ok (.getfield 128, 3) := by decide +kernel
theorem dX7_spellBidder_64 : decode cX7_spellBidder 64 = .ok (.iload_n 1, 1) := by decide +kernel
theorem dX7_spellBidder_65 : decode cX7_spellBidder 65 = .ok (.iaload, 1) := by decide +kernel
theorem dX7_spellBidder_66 : decode cX7_spellBidder 66 = .ok (.bipush 8, 2) := by decide +kernel
theorem dX7_spellBidder_68 : decode cX7_spellBidder 68 = .ok (.if_icmp .eq 29, 3) := by decide +kernel
theorem dX7_spellBidder_71 : decode cX7_spellBidder 71 = .ok (.aload_n 0, 1) := by decide +kernel
theorem dX7_spellBidder_72 : decode cX7_spellBidder 72 = .ok (.getfield 56, 3) := by decide +kernel
theorem dX7_spellBidder_75 : decode cX7_spellBidder 75 = .ok (.ldc_w 362, 3) := by decide +kernel
theorem dX7_spellBidder_78 : decode cX7_spellBidder 78 = .ok (.invokevirtual 341, 3) := by decide +kernel
theorem dX7_spellBidder_81 : decode cX7_spellBidder 81 = .ok (.aload_n 0, 1) := by decide +kernel
theorem dX7_spellBidder_82 : decode cX7_spellBidder 82 = .ok (.getfield 56, 3) := by decide +kernel
theorem dX7_spellBidder_85 : decode cX7_spellBidder 85 = .ok (.aload_n 0, 1) := by decide +kernel
theorem dX7_spellBidder_86 : decode cX7_spellBidder 86 = .ok (.getfield 32, 3) := by decide +kernel
theorem dX7_spellBidder_89 : decode cX7_spellBidder 89 = .ok (.getfield 128, 3) := by decide +kernel
theorem dX7_spellBidder_92 : decode cX7_spellBidder 92 = .ok (.iload_n 1, 1) := by decide +kernel
theorem dX7_spellBidder_93 : decode cX7_spellBidder 93 = .ok (.iaload, 1) := by decide +kernel
theorem dX7_spellBidder_94 : decode cX7_spellBidder 94 = .ok (.invokevirtual 336, 3) := by decide +kernel
theorem dX7_spellBidder_97 : decode cX7_spellBidder 97 = .ok (.aload_n 0, 1) := by decide +kernel
theorem dX7_spellBidder_98 : decode cX7_spellBidder 98 = .ok (.getfield 56, 3) := by decide +kernel
theorem dX7_spellBidder_101 : decode cX7_spellBidder 101 = .ok (.ldc_w 364, 3) := by decide +kernel
theorem dX7_spellBidder_104 : decode cX7_spellBidder 104 = .ok (.invokevirtual 341, 3) := by decide +kernel
theorem dX7_spellBidder_107 : decode cX7_spellBidder 107 = .ok (.return_, 1) := by decide +kernel
