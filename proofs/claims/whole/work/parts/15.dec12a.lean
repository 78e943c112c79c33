theorem dX12_thrown_0 : decode cX12_thrown 0 = .ok (.aload_n 0, 1) := by decide +kernel
theorem dX12_thrown_1 : decode cX12_thrown 1 = .ok (.getfield 1, 3) := by decide +kernel
theorem dX12_thrown_4 : decode cX12_thrown 4 = .ok (.ireturn, 1) := by decide +kernel
theorem dX12_refuse_0 : decode cX12_refuse 0 = .ok (.aload_n 0, 1) := by decide +kernel
theorem dX12_refuse_1 : decode cX12_refuse 1 = .ok (.iconst 1, 1) := by decide +kernel
theorem dX12_refuse_2 : decode cX12_refuse 2 = .ok (.putfield 1, 3) := by decide +kernel
theorem dX12_refuse_5 : decode cX12_refuse 5 = .ok (.iconst 0, 1) := by decide +kernel
theorem dX12_refuse_6 : decode cX12_refuse 6 = .ok (.ireturn, 1) := by decide +kernel
theorem dX12_come_0 : decode cX12_come 0 = .ok (.bipush 24, 2) := by decide +kernel
theorem dX12_come_2 : decode cX12_come 2 = .ok (.istore_n 2, 1) := by decide +kernel
theorem dX12_come_3 : decode cX12_come 3 = .ok (.iload_n 2, 1) := by decide +kernel
theorem dX12_come_4 : decode cX12_come 4 = .ok (.ifCond .lt 35, 3) := by decide +kernel
theorem dX12_come_7 : decode cX12_come 7 = .ok (.aload_n 0, 1) := by decide +kernel
theorem dX12_come_8 : decode cX12_come 8 = .ok (.getfield 7, 3) := by decide +kernel
theorem dX12_come_11 : decode cX12_come 11 = .ok (.aload_n 0, 1) := by decide +kernel
theorem dX12_come_12 : decode cX12_come 12 = .ok (.getfield 11, 3) := by decide +kernel
theorem dX12_come_15 : decode cX12_come 15 = .ok (.iload_n 1, 1) := by decide +kernel
theorem dX12_come_16 : decode cX12_come 16 = .ok (.iload_n 2, 1) := by decide +kernel
theorem dX12_come_17 : decode cX12_come 17 = .ok (.iushr, 1) := by decide +kernel
theorem dX12_come_18 : decode cX12_come 18 = .ok (.sipush 255, 3) := by decide +kernel
theorem dX12_come_21 : decode cX12_come 21 = .ok (.iand, 1) := by decide +kernel
theorem dX12_come_22 : decode cX12_come 22 = .ok (.iastore, 1) := by decide +kernel
theorem dX12_come_23 : decode cX12_come 23 = .ok (.aload_n 0, 1) := by decide +kernel
theorem dX12_come_24 : decode cX12_come 24 = .ok (.dup, 1) := by decide +kernel
theorem dX12_come_25 : decode cX12_come 25 = .ok (.getfield 11, 3) := by decide +kernel
theorem dX12_come_28 : decode cX12_come 28 = .ok (.iconst 1, 1) := by decide +kernel
theorem dX12_come_29 : decode cX12_come 29 = .ok (.iadd, 1) := by decide +kernel
theorem dX12_come_30 : decode cX12_come 30 = .ok (.putfield 11, 3) := by decide +kernel
theorem dX12_come_33 : decode cX12_come 33 = .ok (.iinc 2 (-8), 3) := by decide +kernel
theorem dX12_come_36 : decode cX12_come 36 = .ok (.goto (-33), 3) := by decide +kernel
theorem dX12_come_39 : decode cX12_come 39 = .ok (.return_, 1) := by decide +kernel
theorem dX12_feed_0 : decode cX12_feed 0 = .ok (.aload_n 0, 1) := by decide +kernel
theorem dX12_feed_1 : decode cX12_feed 1 = .ok (.iconst 0, 1) := by decide +kernel
theorem dX12_feed_2 : decode cX12_feed 2 = .ok (.putfield 1, 3) := by decide +kernel
theorem dX12_feed_5 : decode cX12_feed 5 = .ok (.aload_n 0, 1) := by decide +kernel
theorem dX12_feed_6 : decode cX12_feed 6 = .ok (.getfield 11, 3) := by decide +kernel
theorem dX12_feed_9 : decode cX12_feed 9 = .ok (.bipush 20, 2) := by decide +kernel
theorem dX12_feed_11 : decode cX12_feed 11 = .ok (.iadd, 1) := by decide +kernel
theorem dX12_feed_12 : decode cX12_feed 12 = .ok (.sipush 940, 3) := by decide +kernel
theorem dX12_feed_15 : decode cX12_feed 15 = .ok (.if_icmp .le 5, 3) := by decide +kernel
theorem dX12_feed_18 : decode cX12_feed 18 = .ok (.iconst (-1), 1) := by decide +kernel
theorem dX12_feed_19 : decode cX12_feed 19 = .ok (.ireturn, 1) := by decide +kernel
theorem dX12_feed_20 : decode cX12_feed 20 = .ok (.aload_n 0, 1) := by decide +kernel
theorem dX12_feed_21 : decode cX12_feed 21 = .ok (.iload_n 1, 1) := by decide +kernel
theorem dX12_feed_22 : decode cX12_feed 22 = .ok (.invokevirtual 14, 3) := by decide +kernel
theorem dX12_feed_25 : decode cX12_feed 25 = .ok (.aload_n 0, 1) := by decide +kernel
theorem dX12_feed_26 : decode cX12_feed 26 = .ok (.iload_n 2, 1) := by decide +kernel
theorem dX12_feed_27 : decode cX12_feed 27 = .ok (.invokevirtual 14, 3) := by decide +kernel
theorem dX12_feed_30 : decode cX12_feed 30 = .ok (.aload_n 0, 1) := by decide +kernel
theorem dX12_feed_31 : decode cX12_feed 31 = .ok (.iload_n 3, 1) := by decide +kernel
theorem dX12_feed_32 : decode cX12_feed 32 = .ok (.invokevirtual 14, 3) := by decide +kernel
theorem dX12_feed_35 : decode cX12_feed 35 = .ok (.aload_n 0, 1) := by decide +kernel
theorem dX12_feed_36 : decode cX12_feed 36 = .ok (.iload 4, 2) := by decide +kernel
theorem dX12_feed_38 : decode cX12_feed 38 = .ok (.invokevirtual 14, 3) := by decide +kernel
theorem dX12_feed_41 : decode cX12_feed 41 = .ok (.aload_n 0, 1) := by decide +kernel
theorem dX12_feed_42 : decode cX12_feed 42 = .ok (.iload 5, 2) := by decide +kernel
theorem dX12_feed_44 : decode cX12_feed 44 = .ok (.invokevirtual 14, 3) := by decide +kernel
theorem dX12_feed_47 : decode cX12_feed 47 = .ok (.aload_n 0, 1) := by decide +kernel
theorem dX12_feed_48 : decode cX12_feed 48 = .ok (.getfield 11, 3) := by decide +kernel
theorem dX12_feed_51 : decode cX12_feed 51 = .ok (.ireturn, 1) := by decide +kernel
theorem dX12_end_0 : decode cX12_end 0 = .ok (.aload_n 0, 1) := by decide +kernel
theorem dX12_end_1 : decode cX12_end 1 = .ok (.iconst 0, 1) := by decide +kernel
theorem dX12_end_2 : decode cX12_end 2 = .ok (.putfield 1, 3) := by decide +kernel
theorem dX12_end_5 : decode cX12_end 5 = .ok (.iload_n 1, 1) := by decide +kernel
theorem dX12_end_6 : decode cX12_end 6 = .ok (.ifCond .lt 11, 3) := by decide +kernel
theorem dX12_end_9 : decode cX12_end 9 = .ok (.iload_n 1, 1) := by decide +kernel
theorem dX12_end_10 : decode cX12_end 10 = .ok (.aload_n 0, 1) := by decide +kernel
theorem dX12_end_11 : decode cX12_end 11 = .ok (.getfield 11, 3) := by decide +kernel
theorem dX12_end_14 : decode cX12_end 14 = .ok (.if_icmp .le 5, 3) := by decide +kernel
theorem dX12_end_17 : decode cX12_end 17 = .ok (.iconst 0, 1) := by decide +kernel
theorem dX12_end_18 : decode cX12_end 18 = .ok (.ireturn, 1) := by decide +kernel
theorem dX12_end_19 : decode cX12_end 19 = .ok (.aload_n 0, 1) := by decide +kernel
theorem dX12_end_20 : decode cX12_end 20 = .ok (.iload_n 1, 1) := by decide +kernel
theorem dX12_end_21 : decode cX12_end 21 = .ok (.putfield 11, 3) := by decide +kernel
theorem dX12_end_24 : decode cX12_end 24 = .ok (.iconst 1, 1) := by decide +kernel
theorem dX12_end_25 : decode cX12_end 25 = .ok (.ireturn, 1) := by decide +kernel
theorem dX12_take_0 : decode cX12_take 0 = .ok (.aload_n 0, 1) := by decide +kernel
theorem dX12_take_1 : decode cX12_take 1 = .ok (.getfield 11, 3) := by decide +kernel
theorem dX12_take_4 : decode cX12_take 4 = .ok (.istore_n 1, 1) := by decide +kernel
theorem dX12_take_5 : decode cX12_take 5 = .ok (.aload_n 0, 1) := by decide +kernel
theorem dX12_take_6 : decode cX12_take 6 = .ok (.iconst 0, 1) := by decide +kernel
theorem dX12_take_7 : decode cX12_take 7 = .ok (.putfield 11, 3) := by decide +kernel
theorem dX12_take_10 : decode cX12_take 10 = .ok (.iload_n 1, 1) := by decide +kernel
theorem dX12_take_11 : decode cX12_take 11 = .ok (.ireturn, 1) := by decide +kernel
theorem dX12_isIn_0 : decode cX12_isIn 0 = .ok (.iload_n 0, 1) := by decide +kernel
theorem dX12_isIn_1 : decode cX12_isIn 1 = .ok (.iload_n 1, 1) := by decide +kernel
theorem dX12_isIn_2 : decode cX12_isIn 2 = .ok (.if_icmp .lt 12, 3) := by decide +kernel
theorem dX12_isIn_5 : decode cX12_isIn 5 = .ok (.iload_n 0, 1) := by decide +kernel
theorem dX12_isIn_6 : decode cX12_isIn 6 = .ok (.iload_n 2, 1) := by decide +kernel
theorem dX12_isIn_7 : decode cX12_isIn 7 = .ok (.if_icmp .gt 7, 3) := by decide +kernel
theorem dX12_isIn_10 : decode cX12_isIn 10 = .ok (.iconst 1, 1) := by decide +kernel
theorem dX12_isIn_11 : decode cX12_isIn 11 = .ok (.goto 4, 3) := by decide +kernel
theorem dX12_isIn_14 : decode cX12_isIn 14 = .ok (.iconst 0, 1) := by decide +kernel
theorem dX12_isIn_15 : decode cX12_isIn 15 = .ok (.ireturn, 1) := by decide +kernel
theorem dX12_has_0 : decode cX12_has 0 = .ok (.iload_n 0, 1) := by decide +kernel
theorem dX12_has_1 : decode cX12_has 1 = .ok (.iload_n 1, 1) := by decide +kernel
theorem dX12_has_2 : decode cX12_has 2 = .ok (.ishr, 1) := by decide +kernel
theorem dX12_has_3 : decode cX12_has 3 = .ok (.iconst 1, 1) := by decide +kernel
theorem dX12_has_4 : decode cX12_has 4 = .ok (.iand, 1) := by decide +kernel
theorem dX12_has_5 : decode cX12_has 5 = .ok (.iconst 1, 1) := by decide +kernel
theorem dX12_has_6 : decode cX12_has 6 = .ok (.if_icmp .ne 7, 3) := by decide +kernel
theorem dX12_has_9 : decode cX12_has 9 = .ok (.iconst 1, 1) := by decide +kernel
theorem dX12_has_10 : decode cX12_has 10 = .ok (.goto 4, 3) := by decide +kernel
theorem dX12_has_13 : decode cX12_has 13 = .ok (.iconst 0, 1) := by decide +kernel
theorem dX12_has_14 : decode cX12_has 14 = .ok (.ireturn, 1) := by decide +kernel
theorem dX12_least_0 : decode cX12_least 0 = .ok (.iload_n 0, 1) := by decide +kernel
theorem dX12_least_1 : decode cX12_least 1 = .ok (.iload_n 1, 1) := by decide +kernel
theorem dX12_least_2 : decode cX12_least 2 = .ok (.if_icmp .ge 7, 3) := by decide +kernel
theorem dX12_least_5 : decode cX12_least 5 = .ok (.iload_n 0, 1) := by decide +kernel
theorem dX12_least_6 : decode cX12_least 6 = .ok (.goto 4, 3) := by decide +kernel
theorem dX12_least_9 : decode cX12_least 9 = .ok (.iload_n 1, 1) := by decide +kernel
theorem dX12_least_10 : decode cX12_least 10 = .ok (.ireturn, 1) := by decide +kernel
theorem dX12_common_0 : decode cX12_common 0 = .ok (.iload_n 0, 1) := by decide +kernel
theorem dX12_common_1 : decode cX12_common 1 = .ok (.istore_n 2, 1) := by decide +kernel
theorem dX12_common_2 : decode cX12_common 2 = .ok (.iload_n 1, 1) := by decide +kernel
theorem dX12_common_3 : decode cX12_common 3 = .ok (.istore_n 3, 1) := by decide +kernel
theorem dX12_common_4 : decode cX12_common 4 = .ok (.iload_n 3, 1) := by decide +kernel
theorem dX12_common_5 : decode cX12_common 5 = .ok (.ifCond .eq 16, 3) := by decide +kernel
theorem dX12_common_8 : decode cX12_common 8 = .ok (.iload_n 2, 1) := by decide +kernel
theorem dX12_common_9 : decode cX12_common 9 = .ok (.iload_n 3, 1) := by decide +kernel
theorem dX12_common_10 : decode cX12_common 10 = .ok (.irem, 1) := by decide +kernel
theorem dX12_common_11 : decode cX12_common 11 = .ok (.istore 4, 2) := by decide +kernel
theorem dX12_common_13 : decode cX12_common 13 = .ok (.iload_n 3, 1) := by decide +kernel
theorem dX12_common_14 : decode cX12_common 14 = .ok (.istore_n 2, 1) := by decide +kernel
theorem dX12_common_15 : decode cX12_common 15 = .ok (.iload 4, 2) := by decide +kernel
theorem dX12_common_17 : decode cX12_common 17 = .ok (.istore_n 3, 1) := by decide +kernel
theorem dX12_common_18 : decode cX12_common 18 = .ok (.goto (-14), 3) := by decide +kernel
theorem dX12_common_21 : decode cX12_common 21 = .ok (.iload_n 2, 1) := by decide +kernel
theorem dX12_common_22 : decode cX12_common 22 = .ok (.ireturn, 1) := by decide +kernel
theorem dX12_tapeAt_0 : decode cX12_tapeAt 0 = .ok (.iload_n 1, 1) := by decide +kernel
theorem dX12_tapeAt_1 : decode cX12_tapeAt 1 = .ok (.aload_n 0, 1) := by decide +kernel
theorem dX12_tapeAt_2 : decode cX12_tapeAt 2 = .ok (.getfield 18, 3) := by decide +kernel
theorem dX12_tapeAt_5 : decode cX12_tapeAt 5 = .ok (.if_icmp .ge 12, 3) := by decide +kernel
theorem dX12_tapeAt_8 : decode cX12_tapeAt 8 = .ok (.aload_n 0, 1) := by decide +kernel
theorem dX12_tapeAt_9 : decode cX12_tapeAt 9 = .ok (.getfield 7, 3) := by decide +kernel
theorem dX12_tapeAt_12 : decode cX12_tapeAt 12 = .ok (.iload_n 1, 1) := by decide +kernel
theorem dX12_tapeAt_13 : decode cX12_tapeAt 13 = .ok (.iaload, 1) := by decide +kernel
theorem dX12_tapeAt_14 : decode cX12_tapeAt 14 = .ok (.goto 4, 3) := by decide +kernel
theorem dX12_tapeAt_17 : decode cX12_tapeAt 17 = .ok (.iconst 0, 1) := by decide +kernel
theorem dX12_tapeAt_18 : decode cX12_tapeAt 18 = .ok (.ireturn, 1) := by decide +kernel
theorem dX12_isDigit_0 : decode cX12_isDigit 0 = .ok (.iload_n 0, 1) := by decide +kernel
theorem dX12_isDigit_1 : decode cX12_isDigit 1 = .ok (.bipush 48, 2) := by decide +kernel
theorem dX12_isDigit_3 : decode cX12_isDigit 3 = .ok (.if_icmp .lt 13, 3) := by decide +kernel
theorem dX12_isDigit_6 : decode cX12_isDigit 6 = .ok (.iload_n 0, 1) := by decide +kernel
theorem dX12_isDigit_7 : decode cX12_isDigit 7 = .ok (.bipush 57, 2) := by decide +kernel
theorem dX12_isDigit_9 : decode cX12_isDigit 9 = .ok (.if_icmp .gt 7, 3) := by decide +kernel
theorem dX12_isDigit_12 : decode cX12_isDigit 12 = .ok (.iconst 1, 1) := by decide +kernel
theorem dX12_isDigit_13 : decode cX12_isDigit 13 = .ok (.goto 4, 3) := by decide +kernel
theorem dX12_isDigit_16 : decode cX12_isDigit 16 = .ok (.iconst 0, 1) := by decide +kernel
theorem dX12_isDigit_17 : decode cX12_isDigit 17 = .ok (.ireturn, 1) := by decide +kernel
theorem dX12_isLetter_0 : decode cX12_isLetter 0 = .ok (.iload_n 0, 1) := by decide +kernel
theorem dX12_isLetter_1 : decode cX12_isLetter 1 = .ok (.bipush 97, 2) := by decide +kernel
theorem dX12_isLetter_3 : decode cX12_isLetter 3 = .ok (.if_icmp .lt 13, 3) := by decide +kernel
theorem dX12_isLetter_6 : decode cX12_isLetter 6 = .ok (.iload_n 0, 1) := by decide +kernel
theorem dX12_isLetter_7 : decode cX12_isLetter 7 = .ok (.bipush 122, 2) := by decide +kernel
theorem dX12_isLetter_9 : decode cX12_isLetter 9 = .ok (.if_icmp .gt 7, 3) := by decide +kernel
theorem dX12_isLetter_12 : decode cX12_isLetter 12 = .ok (.iconst 1, 1) := by decide +kernel
theorem dX12_isLetter_13 : decode cX12_isLetter 13 = .ok (.goto 4, 3) := by decide +kernel
theorem dX12_isLetter_16 : decode cX12_isLetter 16 = .ok (.iconst 0, 1) := by decide +kernel
theorem dX12_isLetter_17 : decode cX12_isLetter 17 = .ok (.ireturn, 1) := by decide +kernel
theorem dX12_go_0 : decode cX12_go 0 = .ok (.aload_n 0, 1) := by decide +kernel
theorem dX12_go_1 : decode cX12_go 1 = .ok (.getfield 21, 3) := by decide +kernel
theorem dX12_go_4 : decode cX12_go 4 = .ok (.aload_n 0, 1) := by decide +kernel
theorem dX12_go_5 : decode cX12_go 5 = .ok (.getfield 18, 3) := by decide +kernel
theorem dX12_go_8 : decode cX12_go 8 = .ok (.if_icmp .ge 44, 3) := by decide +kernel
theorem dX12_go_11 : decode cX12_go 11 = .ok (.aload_n 0, 1) := by decide +kernel
theorem dX12_go_12 : decode cX12_go 12 = .ok (.getfield 7, 3) := by decide +kernel
theorem dX12_go_15 : decode cX12_go 15 = .ok (.aload_n 0, 1) := by decide +kernel
theorem dX12_go_16 : decode cX12_go 16 = .ok (.getfield 21, 3) := by decide +kernel
theorem dX12_go_19 : decode cX12_go 19 = .ok (.iaload, 1) := by decide +kernel
theorem dX12_go_20 : decode cX12_go 20 = .ok (.bipush 32, 2) := by decide +kernel
theorem dX12_go_22 : decode cX12_go 22 = .ok (.if_icmp .eq 17, 3) := by decide +kernel
theorem dX12_go_25 : decode cX12_go 25 = .ok (.aload_n 0, 1) := by decide +kernel
theorem dX12_go_26 : decode cX12_go 26 = .ok (.getfield 7, 3) := by decide +kernel
theorem dX12_go_29 : decode cX12_go 29 = .ok (.aload_n 0, 1) := by decide +kernel
theorem dX12_go_30 : decode cX12_go 30 = .ok (.getfield 21, 3) := by decide +kernel
theorem dX12_go_33 : decode cX12_go 33 = .ok (.iaload, 1) := by decide +kernel
theorem dX12_go_34 : decode cX12_go 34 = .ok (.bipush 10, 2) := by decide +kernel
theorem dX12_go_36 : decode cX12_go 36 = .ok (.if_icmp .ne 16, 3) := by decide +kernel
theorem dX12_go_39 : decode cX12_go 39 = .ok (.aload_n 0, 1) := by decide +kernel
theorem dX12_go_40 : decode cX12_go 40 = .ok (.dup, 1) := by decide +kernel
theorem dX12_go_41 : decode cX12_go 41 = .ok (.getfield 21, 3) := by decide +kernel
theorem dX12_go_44 : decode cX12_go 44 = .ok (.iconst 1, 1) := by decide +kernel
theorem dX12_go_45 : decode cX12_go 45 = .ok (.iadd, 1) := by decide +kernel
theorem dX12_go_46 : decode cX12_go 46 = .ok (.putfield 21, 3) := by decide +kernel
theorem dX12_go_49 : decode cX12_go 49 = .ok (.goto (-49), 3) := by decide +kernel
theorem dX12_go_52 : decode cX12_go 52 = .ok (.aload_n 0, 1) := by decide +kernel
theorem dX12_go_53 : decode cX12_go 53 = .ok (.aload_n 0, 1) := by decide +kernel
theorem dX12_go_54 : decode cX12_go 54 = .ok (.getfield 21, 3) := by decide +kernel
theorem dX12_go_57 : decode cX12_go 57 = .ok (.putfield 24, 3) := by decide +kernel
theorem dX12_go_60 : decode cX12_go 60 = .ok (.aload_n 0, 1) := by decide +kernel
theorem dX12_go_61 : decode cX12_go 61 = .ok (.getfield 18, 3) := by decide +kernel
theorem dX12_go_64 : decode cX12_go 64 = .ok (.aload_n 0, 1) := by decide +kernel
theorem dX12_go_65 : decode cX12_go 65 = .ok (.getfield 27, 3) := by decide +kernel
theorem dX12_go_68 : decode cX12_go 68 = .ok (.if_icmp .le 28, 3) := by decide +kernel
theorem dX12_go_71 : decode cX12_go 71 = .ok (.aload_n 0, 1) := by decide +kernel
theorem dX12_go_72 : decode cX12_go 72 = .ok (.getfield 24, 3) := by decide +kernel
theorem dX12_go_75 : decode cX12_go 75 = .ok (.aload_n 0, 1) := by decide +kernel
theorem dX12_go_76 : decode cX12_go 76 = .ok (.getfield 27, 3) := by decide +kernel
theorem dX12_go_79 : decode cX12_go 79 = .ok (.if_icmp .lt 17, 3) := by decide +kernel
theorem dX12_go_82 : decode cX12_go 82 = .ok (.aload_n 0, 1) := by decide +kernel
theorem dX12_go_83 : decode cX12_go 83 = .ok (.aload_n 0, 1) := by decide +kernel
theorem dX12_go_84 : decode cX12_go 84 = .ok (.getfield 27, 3) := by decide +kernel
theorem dX12_go_87 : decode cX12_go 87 = .ok (.putfield 24, 3) := by decide +kernel
theorem dX12_go_90 : decode cX12_go 90 = .ok (.aload_n 0, 1) := by decide +kernel
theorem dX12_go_91 : decode cX12_go 91 = .ok (.iconst 1, 1) := by decide +kernel
theorem dX12_go_92 : decode cX12_go 92 = .ok (.putfield 30, 3) := by decide +kernel
theorem dX12_go_95 : decode cX12_go 95 = .ok (.return_, 1) := by decide +kernel
theorem dX12_go_96 : decode cX12_go 96 = .ok (.aload_n 0, 1) := by decide +kernel
theorem dX12_go_97 : decode cX12_go 97 = .ok (.getfield 21, 3) := by decide +kernel
theorem dX12_go_100 : decode cX12_go 100 = .ok (.aload_n 0, 1) := by decide +kernel
theorem dX12_go_101 : decode cX12_go 101 = .ok (.getfield 18, 3) := by decide +kernel
theorem dX12_go_104 : decode cX12_go 104 = .ok (.if_icmp .lt 9, 3) := by decide +kernel
theorem dX12_go_107 : decode cX12_go 107 = .ok (.aload_n 0, 1) := by decide +kernel
theorem dX12_go_108 : decode cX12_go 108 = .ok (.iconst 0, 1) := by decide +kernel
theorem dX12_go_109 : decode cX12_go 109 = .ok (.putfield 30, 3) := by decide +kernel
theorem dX12_go_112 : decode cX12_go 112 = .ok (.return_, 1) := by decide +kernel
theorem dX12_go_113 : decode cX12_go 113 = .ok (.aload_n 0, 1) := by decide +kernel
theorem dX12_go_114 : decode cX12_go 114 = .ok (.getfield 7, 3) := by decide +kernel
theorem dX12_go_117 : decode cX12_go 117 = .ok (.aload_n 0, 1) := by decide +kernel
theorem dX12_go_118 : decode cX12_go 118 = .ok (.getfield 21, 3) := by decide +kernel
theorem dX12_go_121 : decode cX12_go 121 = .ok (.iaload, 1) := by decide +kernel
theorem dX12_go_122 : decode cX12_go 122 = .ok (.istore_n 1, 1) := by decide +kernel
theorem dX12_go_123 : decode cX12_go 123 = .ok (.iload_n 1, 1) := by decide +kernel
theorem dX12_go_124 : decode cX12_go 124 = .ok (.invokestatic 33, 3) := by decide +kernel
theorem dX12_go_127 : decode cX12_go 127 = .ok (.ifCond .ne 71, 3) := by decide +kernel
theorem dX12_go_130 : decode cX12_go 130 = .ok (.iload_n 1, 1) := by decide +kernel
theorem dX12_go_131 : decode cX12_go 131 = .ok (.invokestatic 37, 3) := by decide +kernel
theorem dX12_go_134 : decode cX12_go 134 = .ok (.ifCond .ne 64, 3) := by decide +kernel
theorem dX12_go_137 : decode cX12_go 137 = .ok (.aload_n 0, 1) := by decide +kernel
theorem dX12_go_138 : decode cX12_go 138 = .ok (.iload_n 1, 1) := by decide +kernel
theorem dX12_go_139 : decode cX12_go 139 = .ok (.bipush 59, 2) := by decide +kernel
theorem dX12_go_141 : decode cX12_go 141 = .ok (.if_icmp .eq 33, 3) := by decide +kernel
theorem dX12_go_144 : decode cX12_go 144 = .ok (.iload_n 1, 1) := by decide +kernel
theorem dX12_go_145 : decode cX12_go 145 = .ok (.bipush 60, 2) := by decide +kernel
theorem dX12_go_147 : decode cX12_go 147 = .ok (.if_icmp .eq 27, 3) := by decide +kernel
theorem dX12_go_150 : decode cX12_go 150 = .ok (.iload_n 1, 1) := by decide +kernel
theorem dX12_go_151 : decode cX12_go 151 = .ok (.bipush 61, 2) := by decide +kernel
theorem dX12_go_153 : decode cX12_go 153 = .ok (.if_icmp .eq 21, 3) := by decide +kernel
theorem dX12_go_156 : decode cX12_go 156 = .ok (.iload_n 1, 1) := by decide +kernel
theorem dX12_go_157 : decode cX12_go 157 = .ok (.bipush 62, 2) := by decide +kernel
theorem dX12_go_159 : decode cX12_go 159 = .ok (.if_icmp .eq 15, 3) := by decide +kernel
theorem dX12_go_162 : decode cX12_go 162 = .ok (.iload_n 1, 1) := by decide +kernel
theorem dX12_go_163 : decode cX12_go 163 = .ok (.bipush 40, 2) := by decide +kernel
theorem dX12_go_165 : decode cX12_go 165 = .ok (.if_icmp .eq 9, 3) := by decide +kernel
theorem dX12_go_168 : decode cX12_go 168 = .ok (.iload_n 1, 1) := by decide +kernel
theorem dX12_go_169 : decode cX12_go 169 = .ok (.bipush 41, 2) := by decide +kernel
theorem dX12_go_171 : decode cX12_go 171 = .ok (.if_icmp .ne 7, 3) := by decide +kernel
theorem dX12_go_174 : decode cX12_go 174 = .ok (.iconst 4, 1) := by decide +kernel
theorem dX12_go_175 : decode cX12_go 175 = .ok (.goto 4, 3) := by decide +kernel
theorem dX12_go_178 : decode cX12_go 178 = .ok (.iconst 1, 1) := by decide +kernel
theorem dX12_go_179 : decode cX12_go 179 = .ok (.putfield 30, 3) := by decide +kernel
theorem dX12_go_182 : decode cX12_go 182 = .ok (.aload_n 0, 1) := by decide +kernel
theorem dX12_go_183 : decode cX12_go 183 = .ok (.iload_n 1, 1) := by decide +kernel
theorem dX12_go_184 : decode cX12_go 184 = .ok (.putfield 40, 3) := by decide +kernel
theorem dX12_go_187 : decode cX12_go 187 = .ok (.aload_n 0, 1) := by decide +kernel
theorem dX12_go_188 : decode cX12_go 188 = .ok (.dup, 1) := by decide +kernel
theorem dX12_go_189 : decode cX12_go 189 = .ok (.getfield 21, 3) := by decide +kernel
theorem dX12_go_192 : decode cX12_go 192 = .ok (.iconst 1, 1) := by decide +kernel
theorem dX12_go_193 : decode cX12_go 193 = .ok (.iadd, 1) := by decide +kernel
theorem dX12_go_194 : decode cX12_go 194 = .ok (.putfield 21, 3) := by decide +kernel
theorem dX12_go_197 : decode cX12_go 197 = .ok (.return_, 1) := by decide +kernel
theorem dX12_go_198 : decode cX12_go 198 = .ok (.iload_n 1, 1) := by decide +kernel
theorem dX12_go_199 : decode cX12_go 199 = .ok (.invokestatic 33, 3) := by decide +kernel
theorem dX12_go_202 : decode cX12_go 202 = .ok (.istore_n 2, 1) := by decide +kernel
theorem dX12_go_203 : decode cX12_go 203 = .ok (.iconst 1, 1) := by decide +kernel
theorem dX12_go_204 : decode cX12_go 204 = .ok (.istore_n 3, 1) := by decide +kernel
theorem dX12_go_205 : decode cX12_go 205 = .ok (.aload_n 0, 1) := by decide +kernel
theorem dX12_go_206 : decode cX12_go 206 = .ok (.lconst 0, 1) := by decide +kernel
theorem dX12_go_207 : decode cX12_go 207 = .ok (.putfield 43, 3) := by decide +kernel
theorem dX12_go_210 : decode cX12_go 210 = .ok (.aload_n 0, 1) := by decide +kernel
theorem dX12_go_211 : decode cX12_go 211 = .ok (.iconst 0, 1) := by decide +kernel
theorem dX12_go_212 : decode cX12_go 212 = .ok (.putfield 47, 3) := by decide +kernel
theorem dX12_go_215 : decode cX12_go 215 = .ok (.aload_n 0, 1) := by decide +kernel
theorem dX12_go_216 : decode cX12_go 216 = .ok (.aload_n 0, 1) := by decide +kernel
theorem dX12_go_217 : decode cX12_go 217 = .ok (.getfield 21, 3) := by decide +kernel
theorem dX12_go_220 : decode cX12_go 220 = .ok (.invokevirtual 50, 3) := by decide +kernel
theorem dX12_go_223 : decode cX12_go 223 = .ok (.invokestatic 33, 3) := by decide +kernel
theorem dX12_go_226 : decode cX12_go 226 = .ok (.ifCond .ne 17, 3) := by decide +kernel
theorem dX12_go_229 : decode cX12_go 229 = .ok (.aload_n 0, 1) := by decide +kernel
theorem dX12_go_230 : decode cX12_go 230 = .ok (.aload_n 0, 1) := by decide +kernel
theorem dX12_go_231 : decode cX12_go 231 = .ok (.getfield 21, 3) := by decide +kernel
theorem dX12_go_234 : decode cX12_go 234 = .ok (.invokevirtual 50, 3) := by decide +kernel
theorem dX12_go_237 : decode cX12_go 237 = .ok (.invokestatic 37, 3) := by decide +kernel
theorem dX12_go_240 : decode cX12_go 240 = .ok (.ifCond .eq 110, 3) := by decide +kernel
theorem dX12_go_243 : decode cX12_go 243 = .ok (.aload_n 0, 1) := by decide +kernel
theorem dX12_go_244 : decode cX12_go 244 = .ok (.getfield 7, 3) := by decide +kernel
theorem dX12_go_247 : decode cX12_go 247 = .ok (.aload_n 0, 1) := by decide +kernel
theorem dX12_go_248 : decode cX12_go 248 = .ok (.getfield 21, 3) := by decide +kernel
theorem dX12_go_251 : decode cX12_go 251 = .ok (.iaload, 1) := by decide +kernel
theorem dX12_go_252 : decode cX12_go 252 = .ok (.istore 4, 2) := by decide +kernel
theorem dX12_go_254 : decode cX12_go 254 = .ok (.iload_n 3, 1) := by decide +kernel
theorem dX12_go_255 : decode cX12_go 255 = .ok (.ifCond .eq 16, 3) := by decide +kernel
theorem dX12_go_258 : decode cX12_go 258 = .ok (.iload 4, 2) := by decide +kernel
theorem dX12_go_260 : decode cX12_go 260 = .ok (.invokestatic 33, 3) := by decide +kernel
theorem dX12_go_263 : decode cX12_go 263 = .ok (.iload_n 2, 1) := by decide +kernel
theorem dX12_go_264 : decode cX12_go 264 = .ok (.if_icmp .ne 7, 3) := by decide +kernel
theorem dX12_go_267 : decode cX12_go 267 = .ok (.iconst 1, 1) := by decide +kernel
theorem dX12_go_268 : decode cX12_go 268 = .ok (.goto 4, 3) := by decide +kernel
theorem dX12_go_271 : decode cX12_go 271 = .ok (.iconst 0, 1) := by decide +kernel
theorem dX12_go_272 : decode cX12_go 272 = .ok (.istore_n 3, 1) := by decide +kernel
theorem dX12_go_273 : decode cX12_go 273 = .ok (.aload_n 0, 1) := by decide +kernel
theorem dX12_go_274 : decode cX12_go 274 = .ok (.getfield 21, 3) := by decide +kernel
theorem dX12_go_277 : decode cX12_go 277 = .ok (.aload_n 0, 1) := by decide +kernel
theorem dX12_go_278 : decode cX12_go 278 = .ok (.getfield 24, 3) := by decide +kernel
theorem dX12_go_281 : decode cX12_go 281 = .ok (.isub, 1) := by decide +kernel
theorem dX12_go_282 : decode cX12_go 282 = .ok (.bipush 7, 2) := by decide +kernel
theorem dX12_go_284 : decode cX12_go 284 = .ok (.if_icmp .ge 23, 3) := by decide +kernel
theorem dX12_go_287 : decode cX12_go 287 = .ok (.aload_n 0, 1) := by decide +kernel
theorem dX12_go_288 : decode cX12_go 288 = .ok (.ldc2_w 54, 3) := by decide +kernel
theorem dX12_go_291 : decode cX12_go 291 = .ok (.aload_n 0, 1) := by decide +kernel
theorem dX12_go_292 : decode cX12_go 292 = .ok (.getfield 43, 3) := by decide +kernel
theorem dX12_go_295 : decode cX12_go 295 = .ok (.lmul, 1) := by decide +kernel
theorem dX12_go_296 : decode cX12_go 296 = .ok (.iload 4, 2) := by decide +kernel
theorem dX12_go_298 : decode cX12_go 298 = .ok (.i2l, 1) := by decide +kernel
theorem dX12_go_299 : decode cX12_go 299 = .ok (.ladd, 1) := by decide +kernel
theorem dX12_go_300 : decode cX12_go 300 = .ok (.ldc2_w 56, 3) := by decide +kernel
theorem dX12_go_303 : decode cX12_go 303 = .ok (.lsub, 1) := by decide +kernel
theorem dX12_go_304 : decode cX12_go 304 = .ok (.putfield 43, 3) := by decide +kernel
theorem dX12_go_307 : decode cX12_go 307 = .ok (.aload_n 0, 1) := by decide +kernel
theorem dX12_go_308 : decode cX12_go 308 = .ok (.getfield 21, 3) := by decide +kernel
theorem dX12_go_311 : decode cX12_go 311 = .ok (.aload_n 0, 1) := by decide +kernel
theorem dX12_go_312 : decode cX12_go 312 = .ok (.getfield 24, 3) := by decide +kernel
theorem dX12_go_315 : decode cX12_go 315 = .ok (.isub, 1) := by decide +kernel
theorem dX12_go_316 : decode cX12_go 316 = .ok (.iconst 3, 1) := by decide +kernel
theorem dX12_go_317 : decode cX12_go 317 = .ok (.if_icmp .ge 20, 3) := by decide +kernel
theorem dX12_go_320 : decode cX12_go 320 = .ok (.aload_n 0, 1) := by decide +kernel
theorem dX12_go_321 : decode cX12_go 321 = .ok (.bipush 10, 2) := by decide +kernel
theorem dX12_go_323 : decode cX12_go 323 = .ok (.aload_n 0, 1) := by decide +kernel
theorem dX12_go_324 : decode cX12_go 324 = .ok (.getfield 47, 3) := by decide +kernel
theorem dX12_go_327 : decode cX12_go 327 = .ok (.imul, 1) := by decide +kernel
theorem dX12_go_328 : decode cX12_go 328 = .ok (.iload 4, 2) := by decide +kernel
theorem dX12_go_330 : decode cX12_go 330 = .ok (.iadd, 1) := by decide +kernel
theorem dX12_go_331 : decode cX12_go 331 = .ok (.bipush 48, 2) := by decide +kernel
theorem dX12_go_333 : decode cX12_go 333 = .ok (.isub, 1) := by decide +kernel
theorem dX12_go_334 : decode cX12_go 334 = .ok (.putfield 47, 3) := by decide +kernel
theorem dX12_go_337 : decode cX12_go 337 = .ok (.aload_n 0, 1) := by decide +kernel
theorem dX12_go_338 : decode cX12_go 338 = .ok (.dup, 1) := by decide +kernel
theorem dX12_go_339 : decode cX12_go 339 = .ok (.getfield 21, 3) := by decide +kernel
theorem dX12_go_342 : decode cX12_go 342 = .ok (.iconst 1, 1) := by decide +kernel
theorem dX12_go_343 : decode cX12_go 343 = .ok (.iadd, 1) := by decide +kernel
theorem dX12_go_344 : decode cX12_go 344 = .ok (.putfield 21, 3) := by decide +kernel
theorem dX12_go_347 : decode cX12_go 347 = .ok (.goto (-132), 3) := by decide +kernel
theorem dX12_go_350 : decode cX12_go 350 = .ok (.aload_n 0, 1) := by decide +kernel
theorem dX12_go_351 : decode cX12_go 351 = .ok (.iload_n 3, 1) := by decide +kernel
theorem dX12_go_352 : decode cX12_go 352 = .ok (.ifCond .eq 25, 3) := by decide +kernel
theorem dX12_go_355 : decode cX12_go 355 = .ok (.aload_n 0, 1) := by decide +kernel
theorem dX12_go_356 : decode cX12_go 356 = .ok (.getfield 21, 3) := by decide +kernel
theorem dX12_go_359 : decode cX12_go 359 = .ok (.aload_n 0, 1) := by decide +kernel
theorem dX12_go_360 : decode cX12_go 360 = .ok (.getfield 24, 3) := by decide +kernel
theorem dX12_go_363 : decode cX12_go 363 = .ok (.isub, 1) := by decide +kernel
theorem dX12_go_364 : decode cX12_go 364 = .ok (.iload_n 2, 1) := by decide +kernel
theorem dX12_go_365 : decode cX12_go 365 = .ok (.ifCond .eq 8, 3) := by decide +kernel
theorem dX12_go_368 : decode cX12_go 368 = .ok (.bipush 7, 2) := by decide +kernel
theorem dX12_go_370 : decode cX12_go 370 = .ok (.goto 4, 3) := by decide +kernel
theorem dX12_go_373 : decode cX12_go 373 = .ok (.iconst 3, 1) := by decide +kernel
theorem dX12_go_374 : decode cX12_go 374 = .ok (.if_icmp .le 7, 3) := by decide +kernel
theorem dX12_go_377 : decode cX12_go 377 = .ok (.iconst 1, 1) := by decide +kernel
theorem dX12_go_378 : decode cX12_go 378 = .ok (.goto 12, 3) := by decide +kernel
theorem dX12_go_381 : decode cX12_go 381 = .ok (.iload_n 2, 1) := by decide +kernel
theorem dX12_go_382 : decode cX12_go 382 = .ok (.ifCond .eq 7, 3) := by decide +kernel
theorem dX12_go_385 : decode cX12_go 385 = .ok (.iconst 2, 1) := by decide +kernel
theorem dX12_go_386 : decode cX12_go 386 = .ok (.goto 4, 3) := by decide +kernel
theorem dX12_go_389 : decode cX12_go 389 = .ok (.iconst 3, 1) := by decide +kernel
theorem dX12_go_390 : decode cX12_go 390 = .ok (.putfield 30, 3) := by decide +kernel
theorem dX12_go_393 : decode cX12_go 393 = .ok (.return_, 1) := by decide +kernel
theorem dX12_spelt_0 : decode cX12_spelt 0 = .ok (.ldc2_w 54, 3) := by decide +kernel
theorem dX12_spelt_3 : decode cX12_spelt 3 = .ok (.iload_n 0, 1) := by decide +kernel
theorem dX12_spelt_4 : decode cX12_spelt 4 = .ok (.i2l, 1) := by decide +kernel
theorem dX12_spelt_5 : decode cX12_spelt 5 = .ok (.ldc2_w 56, 3) := by decide +kernel
theorem dX12_spelt_8 : decode cX12_spelt 8 = .ok (.lsub, 1) := by decide +kernel
theorem dX12_spelt_9 : decode cX12_spelt 9 = .ok (.lmul, 1) := by decide +kernel
theorem dX12_spelt_10 : decode cX12_spelt 10 = .ok (.iload_n 1, 1) := by decide +kernel
theorem dX12_spelt_11 : decode cX12_spelt 11 = .ok (.i2l, 1) := by decide +kernel
theorem dX12_spelt_12 : decode cX12_spelt 12 = .ok (.ladd, 1) := by decide +kernel
theorem dX12_spelt_13 : decode cX12_spelt 13 = .ok (.ldc2_w 56, 3) := by decide +kernel
theorem dX12_spelt_16 : decode cX12_spelt 16 = .ok (.lsub, 1) := by decide +kernel
theorem dX12_spelt_17 : decode cX12_spelt 17 = .ok (.lstore 6, 2) := by decide +kernel
theorem dX12_spelt_19 : decode cX12_spelt 19 = .ok (.iload_n 2, 1) := by decide +kernel
theorem dX12_spelt_20 : decode cX12_spelt 20 = .ok (.ifCond .le 18, 3) := by decide +kernel
theorem dX12_spelt_23 : decode cX12_spelt 23 = .ok (.ldc2_w 54, 3) := by decide +kernel
theorem dX12_spelt_26 : decode cX12_spelt 26 = .ok (.lload 6, 2) := by decide +kernel
theorem dX12_spelt_28 : decode cX12_spelt 28 = .ok (.lmul, 1) := by decide +kernel
theorem dX12_spelt_29 : decode cX12_spelt 29 = .ok (.iload_n 2, 1) := by decide +kernel
theorem dX12_spelt_30 : decode cX12_spelt 30 = .ok (.i2l, 1) := by decide +kernel
theorem dX12_spelt_31 : decode cX12_spelt 31 = .ok (.ladd, 1) := by decide +kernel
theorem dX12_spelt_32 : decode cX12_spelt 32 = .ok (.ldc2_w 56, 3) := by decide +kernel
theorem dX12_spelt_35 : decode cX12_spelt 35 = .ok (.lsub, 1) := by decide +kernel
theorem dX12_spelt_36 : decode cX12_spelt 36 = .ok (.lstore 6, 2) := by decide +kernel
theorem dX12_spelt_38 : decode cX12_spelt 38 = .ok (.iload_n 3, 1) := by decide +kernel
theorem dX12_spelt_39 : decode cX12_spelt 39 = .ok (.ifCond .le 18, 3) := by decide +kernel
theorem dX12_spelt_42 : decode cX12_spelt 42 = .ok (.ldc2_w 54, 3) := by decide +kernel
theorem dX12_spelt_45 : decode cX12_spelt 45 = .ok (.lload 6, 2) := by decide +kernel
theorem dX12_spelt_47 : decode cX12_spelt 47 = .ok (.lmul, 1) := by decide +kernel
theorem dX12_spelt_48 : decode cX12_spelt 48 = .ok (.iload_n 3, 1) := by decide +kernel
theorem dX12_spelt_49 : decode cX12_spelt 49 = .ok (.i2l, 1) := by decide +kernel
theorem dX12_spelt_50 : decode cX12_spelt 50 = .ok (.ladd, 1) := by decide +kernel
theorem dX12_spelt_51 : decode cX12_spelt 51 = .ok (.ldc2_w 56, 3) := by decide +kernel
theorem dX12_spelt_54 : decode cX12_spelt 54 = .ok (.lsub, 1) := by decide +kernel
theorem dX12_spelt_55 : decode cX12_spelt 55 = .ok (.lstore 6, 2) := by decide +kernel
theorem dX12_spelt_57 : decode cX12_spelt 57 = .ok (.iload 4, 2) := by decide +kernel
theorem dX12_spelt_59 : decode cX12_spelt 59 = .ok (.ifCond .le 19, 3) := by decide +kernel
theorem dX12_spelt_62 : decode cX12_spelt 62 = .ok (.ldc2_w 54, 3) := by decide +kernel
theorem dX12_spelt_65 : decode cX12_spelt 65 = .ok (.lload 6, 2) := by decide +kernel
theorem dX12_spelt_67 : decode cX12_spelt 67 = .ok (.lmul, 1) := by decide +kernel
theorem dX12_spelt_68 : decode cX12_spelt 68 = .ok (.iload 4, 2) := by decide +kernel
theorem dX12_spelt_70 : decode cX12_spelt 70 = .ok (.i2l, 1) := by decide +kernel
theorem dX12_spelt_71 : decode cX12_spelt 71 = .ok (.ladd, 1) := by decide +kernel
theorem dX12_spelt_72 : decode cX12_spelt 72 = .ok (.ldc2_w 56, 3) := by decide +kernel
theorem dX12_spelt_75 : decode cX12_spelt 75 = .ok (.lsub, 1) := by decide +kernel
theorem dX12_spelt_76 : decode cX12_spelt 76 = .ok (.lstore 6, 2) := by decide +kernel
theorem dX12_spelt_78 : decode cX12_spelt 78 = .ok (.iload 5, 2) := by decide +kernel
theorem dX12_spelt_80 : decode cX12_spelt 80 = .ok (.ifCond .le 19, 3) := by decide +kernel
theorem dX12_spelt_83 : decode cX12_spelt 83 = .ok (.ldc2_w 54, 3) := by decide +kernel
theorem dX12_spelt_86 : decode cX12_spelt 86 = .ok (.lload 6, 2) := by decide +kernel
theorem dX12_spelt_88 : decode cX12_spelt 88 = .ok (.lmul, 1) := by decide +kernel
theorem dX12_spelt_89 : decode cX12_spelt 89 = .ok (.iload 5, 2) := by decide +kernel
theorem dX12_spelt_91 : decode cX12_spelt 91 = .ok (.i2l, 1) := by decide +kernel
theorem dX12_spelt_92 : decode cX12_spelt 92 = .ok (.ladd, 1) := by decide +kernel
theorem dX12_spelt_93 : decode cX12_spelt 93 = .ok (.ldc2_w 56, 3) := by decide +kernel
theorem dX12_spelt_96 : decode cX12_spelt 96 = .ok (.lsub, 1) := by decide +kernel
theorem dX12_spelt_97 : decode cX12_spelt 97 = .ok (.lstore 6, 2) := by decide +kernel
theorem dX12_spelt_99 : decode cX12_spelt 99 = .ok (.lload 6, 2) := by decide +kernel
theorem dX12_spelt_101 : decode cX12_spelt 101 = .ok (.lreturn, 1) := by decide +kernel
theorem dX12_wordOf_0 : decode cX12_wordOf 0 = .ok (.iload_n 0, 1) := by decide +kernel
theorem dX12_wordOf_1 : decode cX12_wordOf 1 = .ok (.tableswitch 391 0 20 #[99, 114, 128, 142, 158, 172, 186, 199, 212, 225, 240, 252, 265, 278, 292, 307, 322, 334, 347, 363, 376], 99) := by decide +kernel
theorem dX12_wordOf_100 : decode cX12_wordOf 100 = .ok (.bipush 115, 2) := by decide +kernel
theorem dX12_wordOf_102 : decode cX12_wordOf 102 = .ok (.bipush 99, 2) := by decide +kernel
theorem dX12_wordOf_104 : decode cX12_wordOf 104 = .ok (.bipush 97, 2) := by decide +kernel
theorem dX12_wordOf_106 : decode cX12_wordOf 106 = .ok (.bipush 108, 2) := by decide +kernel
theorem dX12_wordOf_108 : decode cX12_wordOf 108 = .ok (.bipush 101, 2) := by decide +kernel
theorem dX12_wordOf_110 : decode cX12_wordOf 110 = .ok (.iconst 0, 1) := by decide +kernel
theorem dX12_wordOf_111 : decode cX12_wordOf 111 = .ok (.invokestatic 58, 3) := by decide +kernel
theorem dX12_wordOf_114 : decode cX12_wordOf 114 = .ok (.lreturn, 1) := by decide +kernel
theorem dX12_wordOf_115 : decode cX12_wordOf 115 = .ok (.bipush 119, 2) := by decide +kernel
theorem dX12_wordOf_117 : decode cX12_wordOf 117 = .ok (.bipush 105, 2) := by decide +kernel
theorem dX12_wordOf_119 : decode cX12_wordOf 119 = .ok (.bipush 110, 2) := by decide +kernel
theorem dX12_wordOf_121 : decode cX12_wordOf 121 = .ok (.bipush 101, 2) := by decide +kernel
theorem dX12_wordOf_123 : decode cX12_wordOf 123 = .ok (.iconst 0, 1) := by decide +kernel
theorem dX12_wordOf_124 : decode cX12_wordOf 124 = .ok (.iconst 0, 1) := by decide +kernel
theorem dX12_wordOf_125 : decode cX12_wordOf 125 = .ok (.invokestatic 58, 3) := by decide +kernel
theorem dX12_wordOf_128 : decode cX12_wordOf 128 = .ok (.lreturn, 1) := by decide +kernel
theorem dX12_wordOf_129 : decode cX12_wordOf 129 = .ok (.bipush 121, 2) := by decide +kernel
theorem dX12_wordOf_131 : decode cX12_wordOf 131 = .ok (.bipush 101, 2) := by decide +kernel
theorem dX12_wordOf_133 : decode cX12_wordOf 133 = .ok (.bipush 97, 2) := by decide +kernel
theorem dX12_wordOf_135 : decode cX12_wordOf 135 = .ok (.bipush 114, 2) := by decide +kernel
theorem dX12_wordOf_137 : decode cX12_wordOf 137 = .ok (.iconst 0, 1) := by decide +kernel
theorem dX12_wordOf_138 : decode cX12_wordOf 138 = .ok (.iconst 0, 1) := by decide +kernel
theorem dX12_wordOf_139 : decode cX12_wordOf 139 = .ok (.invokestatic 58, 3) := by decide +kernel
theorem dX12_wordOf_142 : decode cX12_wordOf 142 = .ok (.lreturn, 1) := by decide +kernel
theorem dX12_wordOf_143 : decode cX12_wordOf 143 = .ok (.bipush 97, 2) := by decide +kernel
theorem dX12_wordOf_145 : decode cX12_wordOf 145 = .ok (.bipush 110, 2) := by decide +kernel
theorem dX12_wordOf_147 : decode cX12_wordOf 147 = .ok (.bipush 103, 2) := by decide +kernel
theorem dX12_wordOf_149 : decode cX12_wordOf 149 = .ok (.bipush 101, 2) := by decide +kernel
theorem dX12_wordOf_151 : decode cX12_wordOf 151 = .ok (.bipush 108, 2) := by decide +kernel
theorem dX12_wordOf_153 : decode cX12_wordOf 153 = .ok (.bipush 115, 2) := by decide +kernel
theorem dX12_wordOf_155 : decode cX12_wordOf 155 = .ok (.invokestatic 58, 3) := by decide +kernel
theorem dX12_wordOf_158 : decode cX12_wordOf 158 = .ok (.lreturn, 1) := by decide +kernel
theorem dX12_wordOf_159 : decode cX12_wordOf 159 = .ok (.bipush 109, 2) := by decide +kernel
theorem dX12_wordOf_161 : decode cX12_wordOf 161 = .ok (.bipush 111, 2) := by decide +kernel
theorem dX12_wordOf_163 : decode cX12_wordOf 163 = .ok (.bipush 115, 2) := by decide +kernel
theorem dX12_wordOf_165 : decode cX12_wordOf 165 = .ok (.bipush 116, 2) := by decide +kernel
theorem dX12_wordOf_167 : decode cX12_wordOf 167 = .ok (.iconst 0, 1) := by decide +kernel
theorem dX12_wordOf_168 : decode cX12_wordOf 168 = .ok (.iconst 0, 1) := by decide +kernel
theorem dX12_wordOf_169 : decode cX12_wordOf 169 = .ok (.invokestatic 58, 3) := by decide +kernel
theorem dX12_wordOf_172 : decode cX12_wordOf 172 = .ok (.lreturn, 1) := by decide +kernel
theorem dX12_wordOf_173 : decode cX12_wordOf 173 = .ok (.bipush 100, 2) := by decide +kernel
theorem dX12_wordOf_175 : decode cX12_wordOf 175 = .ok (.bipush 114, 2) := by decide +kernel
theorem dX12_wordOf_177 : decode cX12_wordOf 177 = .ok (.bipush 97, 2) := by decide +kernel
theorem dX12_wordOf_179 : decode cX12_wordOf 179 = .ok (.bipush 119, 2) := by decide +kernel
theorem dX12_wordOf_181 : decode cX12_wordOf 181 = .ok (.iconst 0, 1) := by decide +kernel
theorem dX12_wordOf_182 : decode cX12_wordOf 182 = .ok (.iconst 0, 1) := by decide +kernel
theorem dX12_wordOf_183 : decode cX12_wordOf 183 = .ok (.invokestatic 58, 3) := by decide +kernel
theorem dX12_wordOf_186 : decode cX12_wordOf 186 = .ok (.lreturn, 1) := by decide +kernel
theorem dX12_wordOf_187 : decode cX12_wordOf 187 = .ok (.bipush 114, 2) := by decide +kernel
theorem dX12_wordOf_189 : decode cX12_wordOf 189 = .ok (.bipush 117, 2) := by decide +kernel
theorem dX12_wordOf_191 : decode cX12_wordOf 191 = .ok (.bipush 110, 2) := by decide +kernel
theorem dX12_wordOf_193 : decode cX12_wordOf 193 = .ok (.iconst 0, 1) := by decide +kernel
theorem dX12_wordOf_194 : decode cX12_wordOf 194 = .ok (.iconst 0, 1) := by decide +kernel
theorem dX12_wordOf_195 : decode cX12_wordOf 195 = .ok (.iconst 0, 1) := by decide +kernel
theorem dX12_wordOf_196 : decode cX12_wordOf 196 = .ok (.invokestatic 58, 3) := by decide +kernel
theorem dX12_wordOf_199 : decode cX12_wordOf 199 = .ok (.lreturn, 1) := by decide +kernel
theorem dX12_wordOf_200 : decode cX12_wordOf 200 = .ok (.bipush 116, 2) := by decide +kernel
theorem dX12_wordOf_202 : decode cX12_wordOf 202 = .ok (.bipush 111, 2) := by decide +kernel
theorem dX12_wordOf_204 : decode cX12_wordOf 204 = .ok (.bipush 112, 2) := by decide +kernel
theorem dX12_wordOf_206 : decode cX12_wordOf 206 = .ok (.iconst 0, 1) := by decide +kernel
theorem dX12_wordOf_207 : decode cX12_wordOf 207 = .ok (.iconst 0, 1) := by decide +kernel
theorem dX12_wordOf_208 : decode cX12_wordOf 208 = .ok (.iconst 0, 1) := by decide +kernel
theorem dX12_wordOf_209 : decode cX12_wordOf 209 = .ok (.invokestatic 58, 3) := by decide +kernel
theorem dX12_wordOf_212 : decode cX12_wordOf 212 = .ok (.lreturn, 1) := by decide +kernel
theorem dX12_wordOf_213 : decode cX12_wordOf 213 = .ok (.bipush 116, 2) := by decide +kernel
theorem dX12_wordOf_215 : decode cX12_wordOf 215 = .ok (.bipush 105, 2) := by decide +kernel
theorem dX12_wordOf_217 : decode cX12_wordOf 217 = .ok (.bipush 112, 2) := by decide +kernel
theorem dX12_wordOf_219 : decode cX12_wordOf 219 = .ok (.iconst 0, 1) := by decide +kernel
theorem dX12_wordOf_220 : decode cX12_wordOf 220 = .ok (.iconst 0, 1) := by decide +kernel
theorem dX12_wordOf_221 : decode cX12_wordOf 221 = .ok (.iconst 0, 1) := by decide +kernel
theorem dX12_wordOf_222 : decode cX12_wordOf 222 = .ok (.invokestatic 58, 3) := by decide +kernel
theorem dX12_wordOf_225 : decode cX12_wordOf 225 = .ok (.lreturn, 1) := by decide +kernel
theorem dX12_wordOf_226 : decode cX12_wordOf 226 = .ok (.bipush 121, 2) := by decide +kernel
theorem dX12_wordOf_228 : decode cX12_wordOf 228 = .ok (.bipush 101, 2) := by decide +kernel
theorem dX12_wordOf_230 : decode cX12_wordOf 230 = .ok (.bipush 97, 2) := by decide +kernel
theorem dX12_wordOf_232 : decode cX12_wordOf 232 = .ok (.bipush 114, 2) := by decide +kernel
theorem dX12_wordOf_234 : decode cX12_wordOf 234 = .ok (.bipush 115, 2) := by decide +kernel
theorem dX12_wordOf_236 : decode cX12_wordOf 236 = .ok (.iconst 0, 1) := by decide +kernel
theorem dX12_wordOf_237 : decode cX12_wordOf 237 = .ok (.invokestatic 58, 3) := by decide +kernel
theorem dX12_wordOf_240 : decode cX12_wordOf 240 = .ok (.lreturn, 1) := by decide +kernel
theorem dX12_wordOf_241 : decode cX12_wordOf 241 = .ok (.bipush 111, 2) := by decide +kernel
theorem dX12_wordOf_243 : decode cX12_wordOf 243 = .ok (.bipush 114, 2) := by decide +kernel
theorem dX12_wordOf_245 : decode cX12_wordOf 245 = .ok (.iconst 0, 1) := by decide +kernel
theorem dX12_wordOf_246 : decode cX12_wordOf 246 = .ok (.iconst 0, 1) := by decide +kernel
theorem dX12_wordOf_247 : decode cX12_wordOf 247 = .ok (.iconst 0, 1) := by decide +kernel
theorem dX12_wordOf_248 : decode cX12_wordOf 248 = .ok (.iconst 0, 1) := by decide +kernel
theorem dX12_wordOf_249 : decode cX12_wordOf 249 = .ok (.invokestatic 58, 3) := by decide +kernel
theorem dX12_wordOf_252 : decode cX12_wordOf 252 = .ok (.lreturn, 1) := by decide +kernel
theorem dX12_wordOf_253 : decode cX12_wordOf 253 = .ok (.bipush 97, 2) := by decide +kernel
theorem dX12_wordOf_255 : decode cX12_wordOf 255 = .ok (.bipush 110, 2) := by decide +kernel
theorem dX12_wordOf_257 : decode cX12_wordOf 257 = .ok (.bipush 100, 2) := by decide +kernel
theorem dX12_wordOf_259 : decode cX12_wordOf 259 = .ok (.iconst 0, 1) := by decide +kernel
theorem dX12_wordOf_260 : decode cX12_wordOf 260 = .ok (.iconst 0, 1) := by decide +kernel
theorem dX12_wordOf_261 : decode cX12_wordOf 261 = .ok (.iconst 0, 1) := by decide +kernel
theorem dX12_wordOf_262 : decode cX12_wordOf 262 = .ok (.invokestatic 58, 3) := by decide +kernel
theorem dX12_wordOf_265 : decode cX12_wordOf 265 = .ok (.lreturn, 1) := by decide +kernel
theorem dX12_wordOf_266 : decode cX12_wordOf 266 = .ok (.bipush 110, 2) := by decide +kernel
theorem dX12_wordOf_268 : decode cX12_wordOf 268 = .ok (.bipush 111, 2) := by decide +kernel
theorem dX12_wordOf_270 : decode cX12_wordOf 270 = .ok (.bipush 116, 2) := by decide +kernel
theorem dX12_wordOf_272 : decode cX12_wordOf 272 = .ok (.iconst 0, 1) := by decide +kernel
theorem dX12_wordOf_273 : decode cX12_wordOf 273 = .ok (.iconst 0, 1) := by decide +kernel
theorem dX12_wordOf_274 : decode cX12_wordOf 274 = .ok (.iconst 0, 1) := by decide +kernel
theorem dX12_wordOf_275 : decode cX12_wordOf 275 = .ok (.invokestatic 58, 3) := by decide +kernel
theorem dX12_wordOf_278 : decode cX12_wordOf 278 = .ok (.lreturn, 1) := by decide +kernel
theorem dX12_wordOf_279 : decode cX12_wordOf 279 = .ok (.bipush 102, 2) := by decide +kernel
theorem dX12_wordOf_281 : decode cX12_wordOf 281 = .ok (.bipush 117, 2) := by decide +kernel
theorem dX12_wordOf_283 : decode cX12_wordOf 283 = .ok (.bipush 108, 2) := by decide +kernel
theorem dX12_wordOf_285 : decode cX12_wordOf 285 = .ok (.bipush 108, 2) := by decide +kernel
theorem dX12_wordOf_287 : decode cX12_wordOf 287 = .ok (.iconst 0, 1) := by decide +kernel
theorem dX12_wordOf_288 : decode cX12_wordOf 288 = .ok (.iconst 0, 1) := by decide +kernel
theorem dX12_wordOf_289 : decode cX12_wordOf 289 = .ok (.invokestatic 58, 3) := by decide +kernel
theorem dX12_wordOf_292 : decode cX12_wordOf 292 = .ok (.lreturn, 1) := by decide +kernel
theorem dX12_wordOf_293 : decode cX12_wordOf 293 = .ok (.bipush 101, 2) := by decide +kernel
theorem dX12_wordOf_295 : decode cX12_wordOf 295 = .ok (.bipush 109, 2) := by decide +kernel
theorem dX12_wordOf_297 : decode cX12_wordOf 297 = .ok (.bipush 112, 2) := by decide +kernel
theorem dX12_wordOf_299 : decode cX12_wordOf 299 = .ok (.bipush 116, 2) := by decide +kernel
theorem dX12_wordOf_301 : decode cX12_wordOf 301 = .ok (.bipush 121, 2) := by decide +kernel
theorem dX12_wordOf_303 : decode cX12_wordOf 303 = .ok (.iconst 0, 1) := by decide +kernel
theorem dX12_wordOf_304 : decode cX12_wordOf 304 = .ok (.invokestatic 58, 3) := by decide +kernel
theorem dX12_wordOf_307 : decode cX12_wordOf 307 = .ok (.lreturn, 1) := by decide +kernel
theorem dX12_wordOf_308 : decode cX12_wordOf 308 = .ok (.bipush 109, 2) := by decide +kernel
theorem dX12_wordOf_310 : decode cX12_wordOf 310 = .ok (.bipush 105, 2) := by decide +kernel
theorem dX12_wordOf_312 : decode cX12_wordOf 312 = .ok (.bipush 120, 2) := by decide +kernel
theorem dX12_wordOf_314 : decode cX12_wordOf 314 = .ok (.bipush 101, 2) := by decide +kernel
theorem dX12_wordOf_316 : decode cX12_wordOf 316 = .ok (.bipush 100, 2) := by decide +kernel
theorem dX12_wordOf_318 : decode cX12_wordOf 318 = .ok (.iconst 0, 1) := by decide +kernel
theorem dX12_wordOf_319 : decode cX12_wordOf 319 = .ok (.invokestatic 58, 3) := by decide +kernel
theorem dX12_wordOf_322 : decode cX12_wordOf 322 = .ok (.lreturn, 1) := by decide +kernel
theorem dX12_wordOf_323 : decode cX12_wordOf 323 = .ok (.bipush 105, 2) := by decide +kernel
theorem dX12_wordOf_325 : decode cX12_wordOf 325 = .ok (.bipush 110, 2) := by decide +kernel
theorem dX12_wordOf_327 : decode cX12_wordOf 327 = .ok (.iconst 0, 1) := by decide +kernel
theorem dX12_wordOf_328 : decode cX12_wordOf 328 = .ok (.iconst 0, 1) := by decide +kernel
theorem dX12_wordOf_329 : decode cX12_wordOf 329 = .ok (.iconst 0, 1) := by decide +kernel
theorem dX12_wordOf_330 : decode cX12_wordOf 330 = .ok (.iconst 0, 1) := by decide +kernel
theorem dX12_wordOf_331 : decode cX12_wordOf 331 = .ok (.invokestatic 58, 3) := by decide +kernel
theorem dX12_wordOf_334 : decode cX12_wordOf 334 = .ok (.lreturn, 1) := by decide +kernel
theorem dX12_wordOf_335 : decode cX12_wordOf 335 = .ok (.bipush 104, 2) := by decide +kernel
theorem dX12_wordOf_337 : decode cX12_wordOf 337 = .ok (.bipush 97, 2) := by decide +kernel
theorem dX12_wordOf_339 : decode cX12_wordOf 339 = .ok (.bipush 115, 2) := by decide +kernel
theorem dX12_wordOf_341 : decode cX12_wordOf 341 = .ok (.iconst 0, 1) := by decide +kernel
theorem dX12_wordOf_342 : decode cX12_wordOf 342 = .ok (.iconst 0, 1) := by decide +kernel
theorem dX12_wordOf_343 : decode cX12_wordOf 343 = .ok (.iconst 0, 1) := by decide +kernel
theorem dX12_wordOf_344 : decode cX12_wordOf 344 = .ok (.invokestatic 58, 3) := by decide +kernel
theorem dX12_wordOf_347 : decode cX12_wordOf 347 = .ok (.lreturn, 1) := by decide +kernel
theorem dX12_wordOf_348 : decode cX12_wordOf 348 = .ok (.bipush 108, 2) := by decide +kernel
theorem dX12_wordOf_350 : decode cX12_wordOf 350 = .ok (.bipush 105, 2) := by decide +kernel
theorem dX12_wordOf_352 : decode cX12_wordOf 352 = .ok (.bipush 116, 2) := by decide +kernel
theorem dX12_wordOf_354 : decode cX12_wordOf 354 = .ok (.bipush 114, 2) := by decide +kernel
theorem dX12_wordOf_356 : decode cX12_wordOf 356 = .ok (.bipush 101, 2) := by decide +kernel
theorem dX12_wordOf_358 : decode cX12_wordOf 358 = .ok (.bipush 115, 2) := by decide +kernel
theorem dX12_wordOf_360 : decode cX12_wordOf 360 = .ok (.invokestatic 58, 3) := by decide +kernel
theorem dX12_wordOf_363 : decode cX12_wordOf 363 = .ok (.lreturn, 1) := by decide +kernel
theorem dX12_wordOf_364 : decode cX12_wordOf 364 = .ok (.bipush 97, 2) := by decide +kernel
theorem dX12_wordOf_366 : decode cX12_wordOf 366 = .ok (.bipush 103, 2) := by decide +kernel
theorem dX12_wordOf_368 : decode cX12_wordOf 368 = .ok (.bipush 101, 2) := by decide +kernel
theorem dX12_wordOf_370 : decode cX12_wordOf 370 = .ok (.iconst 0, 1) := by decide +kernel
theorem dX12_wordOf_371 : decode cX12_wordOf 371 = .ok (.iconst 0, 1) := by decide +kernel
theorem dX12_wordOf_372 : decode cX12_wordOf 372 = .ok (.iconst 0, 1) := by decide +kernel
theorem dX12_wordOf_373 : decode cX12_wordOf 373 = .ok (.invokestatic 58, 3) := by decide +kernel
theorem dX12_wordOf_376 : decode cX12_wordOf 376 = .ok (.lreturn, 1) := by decide +kernel
theorem dX12_wordOf_377 : decode cX12_wordOf 377 = .ok (.bipush 100, 2) := by decide +kernel
theorem dX12_wordOf_379 : decode cX12_wordOf 379 = .ok (.bipush 114, 2) := by decide +kernel
theorem dX12_wordOf_381 : decode cX12_wordOf 381 = .ok (.bipush 97, 2) := by decide +kernel
theorem dX12_wordOf_383 : decode cX12_wordOf 383 = .ok (.bipush 119, 2) := by decide +kernel
theorem dX12_wordOf_385 : decode cX12_wordOf 385 = .ok (.bipush 110, 2) := by decide +kernel
theorem dX12_wordOf_387 : decode cX12_wordOf 387 = .ok (.iconst 0, 1) := by decide +kernel
theorem dX12_wordOf_388 : decode cX12_wordOf 388 = .ok (.invokestatic 58, 3) := by decide +kernel
theorem dX12_wordOf_391 : decode cX12_wordOf 391 = .ok (.lreturn, 1) := by decide +kernel
theorem dX12_wordOf_392 : decode cX12_wordOf 392 = .ok (.bipush 110, 2) := by decide +kernel
theorem dX12_wordOf_394 : decode cX12_wordOf 394 = .ok (.bipush 117, 2) := by decide +kernel
theorem dX12_wordOf_396 : decode cX12_wordOf 396 = .ok (.bipush 109, 2) := by decide +kernel
theorem dX12_wordOf_398 : decode cX12_wordOf 398 = .ok (.bipush 98, 2) := by decide +kernel
theorem dX12_wordOf_400 : decode cX12_wordOf 400 = .ok (.bipush 101, 2) := by decide +kernel
theorem dX12_wordOf_402 : decode cX12_wordOf 402 = .ok (.bipush 114, 2) := by decide +kernel
theorem dX12_wordOf_404 : decode cX12_wordOf 404 = .ok (.invokestatic 58, 3) := by decide +kernel
theorem dX12_wordOf_407 : decode cX12_wordOf 407 = .ok (.lreturn, 1) := by decide +kernel
theorem dX12_isWord_0 : decode cX12_isWord 0 = .ok (.aload_n 0, 1) := by decide +kernel
theorem dX12_isWord_1 : decode cX12_isWord 1 = .ok (.getfield 30, 3) := by decide +kernel
theorem dX12_isWord_4 : decode cX12_isWord 4 = .ok (.iconst 2, 1) := by decide +kernel
theorem dX12_isWord_5 : decode cX12_isWord 5 = .ok (.if_icmp .ne 19, 3) := by decide +kernel
theorem dX12_isWord_8 : decode cX12_isWord 8 = .ok (.aload_n 0, 1) := by decide +kernel
theorem dX12_isWord_9 : decode cX12_isWord 9 = .ok (.getfield 43, 3) := by decide +kernel
theorem dX12_isWord_12 : decode cX12_isWord 12 = .ok (.iload_n 1, 1) := by decide +kernel
theorem dX12_isWord_13 : decode cX12_isWord 13 = .ok (.invokestatic 62, 3) := by decide +kernel
theorem dX12_isWord_16 : decode cX12_isWord 16 = .ok (.lcmp, 1) := by decide +kernel
theorem dX12_isWord_17 : decode cX12_isWord 17 = .ok (.ifCond .ne 7, 3) := by decide +kernel
theorem dX12_isWord_20 : decode cX12_isWord 20 = .ok (.iconst 1, 1) := by decide +kernel
theorem dX12_isWord_21 : decode cX12_isWord 21 = .ok (.goto 4, 3) := by decide +kernel
theorem dX12_isWord_24 : decode cX12_isWord 24 = .ok (.iconst 0, 1) := by decide +kernel
theorem dX12_isWord_25 : decode cX12_isWord 25 = .ok (.ireturn, 1) := by decide +kernel
theorem dX12_isSign_0 : decode cX12_isSign 0 = .ok (.aload_n 0, 1) := by decide +kernel
theorem dX12_isSign_1 : decode cX12_isSign 1 = .ok (.getfield 30, 3) := by decide +kernel
theorem dX12_isSign_4 : decode cX12_isSign 4 = .ok (.iconst 4, 1) := by decide +kernel
theorem dX12_isSign_5 : decode cX12_isSign 5 = .ok (.if_icmp .ne 15, 3) := by decide +kernel
theorem dX12_isSign_8 : decode cX12_isSign 8 = .ok (.aload_n 0, 1) := by decide +kernel
theorem dX12_isSign_9 : decode cX12_isSign 9 = .ok (.getfield 40, 3) := by decide +kernel
theorem dX12_isSign_12 : decode cX12_isSign 12 = .ok (.iload_n 1, 1) := by decide +kernel
theorem dX12_isSign_13 : decode cX12_isSign 13 = .ok (.if_icmp .ne 7, 3) := by decide +kernel
theorem dX12_isSign_16 : decode cX12_isSign 16 = .ok (.iconst 1, 1) := by decide +kernel
theorem dX12_isSign_17 : decode cX12_isSign 17 = .ok (.goto 4, 3) := by decide +kernel
theorem dX12_isSign_20 : decode cX12_isSign 20 = .ok (.iconst 0, 1) := by decide +kernel
theorem dX12_isSign_21 : decode cX12_isSign 21 = .ok (.ireturn, 1) := by decide +kernel
theorem dX12_isName_0 : decode cX12_isName 0 = .ok (.aload_n 0, 1) := by decide +kernel
theorem dX12_isName_1 : decode cX12_isName 1 = .ok (.getfield 30, 3) := by decide +kernel
theorem dX12_isName_4 : decode cX12_isName 4 = .ok (.iconst 2, 1) := by decide +kernel
theorem dX12_isName_5 : decode cX12_isName 5 = .ok (.if_icmp .eq 5, 3) := by decide +kernel
theorem dX12_isName_8 : decode cX12_isName 8 = .ok (.iconst 0, 1) := by decide +kernel
theorem dX12_isName_9 : decode cX12_isName 9 = .ok (.ireturn, 1) := by decide +kernel
theorem dX12_isName_10 : decode cX12_isName 10 = .ok (.iconst 0, 1) := by decide +kernel
theorem dX12_isName_11 : decode cX12_isName 11 = .ok (.istore_n 1, 1) := by decide +kernel
theorem dX12_isName_12 : decode cX12_isName 12 = .ok (.iload_n 1, 1) := by decide +kernel
theorem dX12_isName_13 : decode cX12_isName 13 = .ok (.bipush 21, 2) := by decide +kernel
theorem dX12_isName_15 : decode cX12_isName 15 = .ok (.if_icmp .gt 23, 3) := by decide +kernel
theorem dX12_isName_18 : decode cX12_isName 18 = .ok (.aload_n 0, 1) := by decide +kernel
theorem dX12_isName_19 : decode cX12_isName 19 = .ok (.getfield 43, 3) := by decide +kernel
theorem dX12_isName_22 : decode cX12_isName 22 = .ok (.iload_n 1, 1) := by decide +kernel
theorem dX12_isName_23 : decode cX12_isName 23 = .ok (.invokestatic 62, 3) := by decide +kernel
theorem dX12_isName_26 : decode cX12_isName 26 = .ok (.lcmp, 1) := by decide +kernel
theorem dX12_isName_27 : decode cX12_isName 27 = .ok (.ifCond .ne 5, 3) := by decide +kernel
theorem dX12_isName_30 : decode cX12_isName 30 = .ok (.iconst 0, 1) := by decide +kernel
theorem dX12_isName_31 : decode cX12_isName 31 = .ok (.ireturn, 1) := by decide +kernel
theorem dX12_isName_32 : decode cX12_isName 32 = .ok (.iinc 1 1, 3) := by decide +kernel
theorem dX12_isName_35 : decode cX12_isName 35 = .ok (.goto (-23), 3) := by decide +kernel
theorem dX12_isName_38 : decode cX12_isName 38 = .ok (.iconst 1, 1) := by decide +kernel
theorem dX12_isName_39 : decode cX12_isName 39 = .ok (.ireturn, 1) := by decide +kernel
theorem dX12_bad_0 : decode cX12_bad 0 = .ok (.aload_n 0, 1) := by decide +kernel
theorem dX12_bad_1 : decode cX12_bad 1 = .ok (.aload_n 0, 1) := by decide +kernel
theorem dX12_bad_2 : decode cX12_bad 2 = .ok (.getfield 30, 3) := by decide +kernel
theorem dX12_bad_5 : decode cX12_bad 5 = .ok (.iconst 1, 1) := by decide +kernel
theorem dX12_bad_6 : decode cX12_bad 6 = .ok (.if_icmp .ne 7, 3) := by decide +kernel
theorem dX12_bad_9 : decode cX12_bad 9 = .ok (.iconst 1, 1) := by decide +kernel
theorem dX12_bad_10 : decode cX12_bad 10 = .ok (.goto 4, 3) := by decide +kernel
theorem dX12_bad_13 : decode cX12_bad 13 = .ok (.iload_n 1, 1) := by decide +kernel
theorem dX12_bad_14 : decode cX12_bad 14 = .ok (.putfield 66, 3) := by decide +kernel
theorem dX12_bad_17 : decode cX12_bad 17 = .ok (.aload_n 0, 1) := by decide +kernel
theorem dX12_bad_18 : decode cX12_bad 18 = .ok (.aload_n 0, 1) := by decide +kernel
theorem dX12_bad_19 : decode cX12_bad 19 = .ok (.getfield 24, 3) := by decide +kernel
theorem dX12_bad_22 : decode cX12_bad 22 = .ok (.putfield 69, 3) := by decide +kernel
theorem dX12_bad_25 : decode cX12_bad 25 = .ok (.iconst 0, 1) := by decide +kernel
theorem dX12_bad_26 : decode cX12_bad 26 = .ok (.ireturn, 1) := by decide +kernel
theorem dX12_readNumber_0 : decode cX12_readNumber 0 = .ok (.aload_n 0, 1) := by decide +kernel
theorem dX12_readNumber_1 : decode cX12_readNumber 1 = .ok (.getfield 30, 3) := by decide +kernel
theorem dX12_readNumber_4 : decode cX12_readNumber 4 = .ok (.iconst 3, 1) := by decide +kernel
theorem dX12_readNumber_5 : decode cX12_readNumber 5 = .ok (.if_icmp .eq 9, 3) := by decide +kernel
theorem dX12_readNumber_8 : decode cX12_readNumber 8 = .ok (.aload_n 0, 1) := by decide +kernel
theorem dX12_readNumber_9 : decode cX12_readNumber 9 = .ok (.iconst 1, 1) := by decide +kernel
theorem dX12_readNumber_10 : decode cX12_readNumber 10 = .ok (.invokevirtual 72, 3) := by decide +kernel
theorem dX12_readNumber_13 : decode cX12_readNumber 13 = .ok (.ireturn, 1) := by decide +kernel
theorem dX12_readNumber_14 : decode cX12_readNumber 14 = .ok (.aload_n 0, 1) := by decide +kernel
theorem dX12_readNumber_15 : decode cX12_readNumber 15 = .ok (.getfield 47, 3) := by decide +kernel
theorem dX12_readNumber_18 : decode cX12_readNumber 18 = .ok (.iload_n 1, 1) := by decide +kernel
theorem dX12_readNumber_19 : decode cX12_readNumber 19 = .ok (.iload_n 2, 1) := by decide +kernel
theorem dX12_readNumber_20 : decode cX12_readNumber 20 = .ok (.invokestatic 75, 3) := by decide +kernel
theorem dX12_readNumber_23 : decode cX12_readNumber 23 = .ok (.ifCond .ne 9, 3) := by decide +kernel
theorem dX12_readNumber_26 : decode cX12_readNumber 26 = .ok (.aload_n 0, 1) := by decide +kernel
theorem dX12_readNumber_27 : decode cX12_readNumber 27 = .ok (.iconst 2, 1) := by decide +kernel
theorem dX12_readNumber_28 : decode cX12_readNumber 28 = .ok (.invokevirtual 72, 3) := by decide +kernel
theorem dX12_readNumber_31 : decode cX12_readNumber 31 = .ok (.ireturn, 1) := by decide +kernel
theorem dX12_readNumber_32 : decode cX12_readNumber 32 = .ok (.aload_n 0, 1) := by decide +kernel
theorem dX12_readNumber_33 : decode cX12_readNumber 33 = .ok (.aload_n 0, 1) := by decide +kernel
theorem dX12_readNumber_34 : decode cX12_readNumber 34 = .ok (.getfield 47, 3) := by decide +kernel
theorem dX12_readNumber_37 : decode cX12_readNumber 37 = .ok (.putfield 79, 3) := by decide +kernel
theorem dX12_readNumber_40 : decode cX12_readNumber 40 = .ok (.aload_n 0, 1) := by decide +kernel
theorem dX12_readNumber_41 : decode cX12_readNumber 41 = .ok (.invokevirtual 82, 3) := by decide +kernel
theorem dX12_readNumber_44 : decode cX12_readNumber 44 = .ok (.iconst 1, 1) := by decide +kernel
theorem dX12_readNumber_45 : decode cX12_readNumber 45 = .ok (.ireturn, 1) := by decide +kernel
theorem dX12_readEnd_0 : decode cX12_readEnd 0 = .ok (.aload_n 0, 1) := by decide +kernel
theorem dX12_readEnd_1 : decode cX12_readEnd 1 = .ok (.bipush 59, 2) := by decide +kernel
theorem dX12_readEnd_3 : decode cX12_readEnd 3 = .ok (.invokevirtual 86, 3) := by decide +kernel
theorem dX12_readEnd_6 : decode cX12_readEnd 6 = .ok (.ifCond .ne 9, 3) := by decide +kernel
theorem dX12_readEnd_9 : decode cX12_readEnd 9 = .ok (.aload_n 0, 1) := by decide +kernel
theorem dX12_readEnd_10 : decode cX12_readEnd 10 = .ok (.iconst 1, 1) := by decide +kernel
theorem dX12_readEnd_11 : decode cX12_readEnd 11 = .ok (.invokevirtual 72, 3) := by decide +kernel
theorem dX12_readEnd_14 : decode cX12_readEnd 14 = .ok (.ireturn, 1) := by decide +kernel
theorem dX12_readEnd_15 : decode cX12_readEnd 15 = .ok (.aload_n 0, 1) := by decide +kernel
theorem dX12_readEnd_16 : decode cX12_readEnd 16 = .ok (.invokevirtual 82, 3) := by decide +kernel
theorem dX12_readEnd_19 : decode cX12_readEnd 19 = .ok (.iconst 1, 1) := by decide +kernel
theorem dX12_readEnd_20 : decode cX12_readEnd 20 = .ok (.ireturn, 1) := by decide +kernel
theorem dX12_begin_0 : decode cX12_begin 0 = .ok (.aload_n 0, 1) := by decide +kernel
theorem dX12_begin_1 : decode cX12_begin 1 = .ok (.iconst 0, 1) := by decide +kernel
theorem dX12_begin_2 : decode cX12_begin 2 = .ok (.putfield 1, 3) := by decide +kernel
theorem dX12_begin_5 : decode cX12_begin 5 = .ok (.aload_n 0, 1) := by decide +kernel
theorem dX12_begin_6 : decode cX12_begin 6 = .ok (.aload_n 0, 1) := by decide +kernel
theorem dX12_begin_7 : decode cX12_begin 7 = .ok (.invokevirtual 89, 3) := by decide +kernel
theorem dX12_begin_10 : decode cX12_begin 10 = .ok (.putfield 18, 3) := by decide +kernel
theorem dX12_begin_13 : decode cX12_begin 13 = .ok (.aload_n 0, 1) := by decide +kernel
theorem dX12_begin_14 : decode cX12_begin 14 = .ok (.iload_n 1, 1) := by decide +kernel
theorem dX12_begin_15 : decode cX12_begin 15 = .ok (.putfield 27, 3) := by decide +kernel
theorem dX12_begin_18 : decode cX12_begin 18 = .ok (.aload_n 0, 1) := by decide +kernel
theorem dX12_begin_19 : decode cX12_begin 19 = .ok (.iconst 0, 1) := by decide +kernel
theorem dX12_begin_20 : decode cX12_begin 20 = .ok (.putfield 66, 3) := by decide +kernel
theorem dX12_begin_23 : decode cX12_begin 23 = .ok (.aload_n 0, 1) := by decide +kernel
theorem dX12_begin_24 : decode cX12_begin 24 = .ok (.iconst 0, 1) := by decide +kernel
theorem dX12_begin_25 : decode cX12_begin 25 = .ok (.putfield 21, 3) := by decide +kernel
theorem dX12_begin_28 : decode cX12_begin 28 = .ok (.aload_n 0, 1) := by decide +kernel
theorem dX12_begin_29 : decode cX12_begin 29 = .ok (.invokevirtual 82, 3) := by decide +kernel
theorem dX12_begin_32 : decode cX12_begin 32 = .ok (.return_, 1) := by decide +kernel
theorem dX12_init_0 : decode cX12_init 0 = .ok (.aload_n 0, 1) := by decide +kernel
theorem dX12_init_1 : decode cX12_init 1 = .ok (.invokespecial 93, 3) := by decide +kernel
theorem dX12_init_4 : decode cX12_init 4 = .ok (.aload_n 0, 1) := by decide +kernel
theorem dX12_init_5 : decode cX12_init 5 = .ok (.sipush 940, 3) := by decide +kernel
theorem dX12_init_8 : decode cX12_init 8 = .ok (.newarray .int, 2) := by decide +kernel
theorem dX12_init_10 : decode cX12_init 10 = .ok (.putfield 7, 3) := by decide +kernel
theorem dX12_init_13 : decode cX12_init 13 = .ok (.aload_n 0, 1) := by decide +kernel
theorem dX12_init_14 : decode cX12_init 14 = .ok (.sipush 1920, 3) := by decide +kernel
theorem dX12_init_17 : decode cX12_init 17 = .ok (.newarray .int, 2) := by decide +kernel
theorem dX12_init_19 : decode cX12_init 19 = .ok (.putfield 98, 3) := by decide +kernel
theorem dX12_init_22 : decode cX12_init 22 = .ok (.aload_n 0, 1) := by decide +kernel
theorem dX12_init_23 : decode cX12_init 23 = .ok (.sipush 815, 3) := by decide +kernel
theorem dX12_init_26 : decode cX12_init 26 = .ok (.newarray .int, 2) := by decide +kernel
theorem dX12_init_28 : decode cX12_init 28 = .ok (.putfield 101, 3) := by decide +kernel
theorem dX12_init_31 : decode cX12_init 31 = .ok (.aload_n 0, 1) := by decide +kernel
theorem dX12_init_32 : decode cX12_init 32 = .ok (.sipush 3840, 3) := by decide +kernel
theorem dX12_init_35 : decode cX12_init 35 = .ok (.newarray .int, 2) := by decide +kernel
theorem dX12_init_37 : decode cX12_init 37 = .ok (.putfield 104, 3) := by decide +kernel
theorem dX12_init_40 : decode cX12_init 40 = .ok (.aload_n 0, 1) := by decide +kernel
theorem dX12_init_41 : decode cX12_init 41 = .ok (.sipush 6904, 3) := by decide +kernel
theorem dX12_init_44 : decode cX12_init 44 = .ok (.newarray .int, 2) := by decide +kernel
theorem dX12_init_46 : decode cX12_init 46 = .ok (.putfield 107, 3) := by decide +kernel
theorem dX12_init_49 : decode cX12_init 49 = .ok (.aload_n 0, 1) := by decide +kernel
theorem dX12_init_50 : decode cX12_init 50 = .ok (.sipush 863, 3) := by decide +kernel
theorem dX12_init_53 : decode cX12_init 53 = .ok (.newarray .int, 2) := by decide +kernel
theorem dX12_init_55 : decode cX12_init 55 = .ok (.putfield 110, 3) := by decide +kernel
theorem dX12_init_58 : decode cX12_init 58 = .ok (.aload_n 0, 1) := by decide +kernel
theorem dX12_init_59 : decode cX12_init 59 = .ok (.iconst 5, 1) := by decide +kernel
theorem dX12_init_60 : decode cX12_init 60 = .ok (.newarray .long, 2) := by decide +kernel
theorem dX12_init_62 : decode cX12_init 62 = .ok (.putfield 113, 3) := by decide +kernel
theorem dX12_init_65 : decode cX12_init 65 = .ok (.aload_n 0, 1) := by decide +kernel
theorem dX12_init_66 : decode cX12_init 66 = .ok (.iconst 5, 1) := by decide +kernel
theorem dX12_init_67 : decode cX12_init 67 = .ok (.newarray .long, 2) := by decide +kernel
theorem dX12_init_69 : decode cX12_init 69 = .ok (.putfield 117, 3) := by decide +kernel
theorem dX12_init_72 : decode cX12_init 72 = .ok (.aload_n 0, 1) := by decide +kernel
theorem dX12_init_73 : decode cX12_init 73 = .ok (.bipush 10, 2) := by decide +kernel
theorem dX12_init_75 : decode cX12_init 75 = .ok (.newarray .long, 2) := by decide +kernel
theorem dX12_init_77 : decode cX12_init 77 = .ok (.putfield 120, 3) := by decide +kernel
theorem dX12_init_80 : decode cX12_init 80 = .ok (.aload_n 0, 1) := by decide +kernel
theorem dX12_init_81 : decode cX12_init 81 = .ok (.iconst 2, 1) := by decide +kernel
theorem dX12_init_82 : decode cX12_init 82 = .ok (.newarray .boolean, 2) := by decide +kernel
theorem dX12_init_84 : decode cX12_init 84 = .ok (.putfield 123, 3) := by decide +kernel
theorem dX12_init_87 : decode cX12_init 87 = .ok (.aload_n 0, 1) := by decide +kernel
theorem dX12_init_88 : decode cX12_init 88 = .ok (.bipush 40, 2) := by decide +kernel
theorem dX12_init_90 : decode cX12_init 90 = .ok (.newarray .int, 2) := by decide +kernel
theorem dX12_init_92 : decode cX12_init 92 = .ok (.putfield 127, 3) := by decide +kernel
theorem dX12_init_95 : decode cX12_init 95 = .ok (.aload_n 0, 1) := by decide +kernel
theorem dX12_init_96 : decode cX12_init 96 = .ok (.bipush 40, 2) := by decide +kernel
theorem dX12_init_98 : decode cX12_init 98 = .ok (.newarray .int, 2) := by decide +kernel
theorem dX12_init_100 : decode cX12_init 100 = .ok (.putfield 130, 3) := by decide +kernel
theorem dX12_init_103 : decode cX12_init 103 = .ok (.aload_n 0, 1) := by decide +kernel
theorem dX12_init_104 : decode cX12_init 104 = .ok (.bipush 40, 2) := by decide +kernel
theorem dX12_init_106 : decode cX12_init 106 = .ok (.newarray .int, 2) := by decide +kernel
theorem dX12_init_108 : decode cX12_init 108 = .ok (.putfield 133, 3) := by decide +kernel
theorem dX12_init_111 : decode cX12_init 111 = .ok (.aload_n 0, 1) := by decide +kernel
theorem dX12_init_112 : decode cX12_init 112 = .ok (.bipush 40, 2) := by decide +kernel
theorem dX12_init_114 : decode cX12_init 114 = .ok (.newarray .int, 2) := by decide +kernel
theorem dX12_init_116 : decode cX12_init 116 = .ok (.putfield 136, 3) := by decide +kernel
theorem dX12_init_119 : decode cX12_init 119 = .ok (.aload_n 0, 1) := by decide +kernel
theorem dX12_init_120 : decode cX12_init 120 = .ok (.iconst 4, 1) := by decide +kernel
theorem dX12_init_121 : decode cX12_init 121 = .ok (.newarray .int, 2) := by decide +kernel
theorem dX12_init_123 : decode cX12_init 123 = .ok (.putfield 139, 3) := by decide +kernel
theorem dX12_init_126 : decode cX12_init 126 = .ok (.aload_n 0, 1) := by decide +kernel
theorem dX12_init_127 : decode cX12_init 127 = .ok (.bipush 40, 2) := by decide +kernel
theorem dX12_init_129 : decode cX12_init 129 = .ok (.newarray .int, 2) := by decide +kernel
theorem dX12_init_131 : decode cX12_init 131 = .ok (.putfield 142, 3) := by decide +kernel
theorem dX12_init_134 : decode cX12_init 134 = .ok (.aload_n 0, 1) := by decide +kernel
theorem dX12_init_135 : decode cX12_init 135 = .ok (.bipush 84, 2) := by decide +kernel
theorem dX12_init_137 : decode cX12_init 137 = .ok (.newarray .int, 2) := by decide +kernel
theorem dX12_init_139 : decode cX12_init 139 = .ok (.putfield 145, 3) := by decide +kernel
theorem dX12_init_142 : decode cX12_init 142 = .ok (.aload_n 0, 1) := by decide +kernel
theorem dX12_init_143 : decode cX12_init 143 = .ok (.iconst 4, 1) := by decide +kernel
theorem dX12_init_144 : decode cX12_init 144 = .ok (.newarray .int, 2) := by decide +kernel
theorem dX12_init_146 : decode cX12_init 146 = .ok (.putfield 148, 3) := by decide +kernel
theorem dX12_init_149 : decode cX12_init 149 = .ok (.aload_n 0, 1) := by decide +kernel
theorem dX12_init_150 : decode cX12_init 150 = .ok (.iconst 4, 1) := by decide +kernel
theorem dX12_init_151 : decode cX12_init 151 = .ok (.newarray .int, 2) := by decide +kernel
theorem dX12_init_153 : decode cX12_init 153 = .ok (.putfield 151, 3) := by decide +kernel
theorem dX12_init_156 : decode cX12_init 156 = .ok (.aload_n 0, 1) := by decide +kernel
theorem dX12_init_157 : decode cX12_init 157 = .ok (.bipush 40, 2) := by decide +kernel
theorem dX12_init_159 : decode cX12_init 159 = .ok (.newarray .int, 2) := by decide +kernel
theorem dX12_init_161 : decode cX12_init 161 = .ok (.putfield 154, 3) := by decide +kernel
theorem dX12_init_164 : decode cX12_init 164 = .ok (.aload_n 0, 1) := by decide +kernel
theorem dX12_init_165 : decode cX12_init 165 = .ok (.iconst (-1), 1) := by decide +kernel
theorem dX12_init_166 : decode cX12_init 166 = .ok (.putfield 157, 3) := by decide +kernel
theorem dX12_init_169 : decode cX12_init 169 = .ok (.aload_n 0, 1) := by decide +kernel
theorem dX12_init_170 : decode cX12_init 170 = .ok (.iconst (-1), 1) := by decide +kernel
theorem dX12_init_171 : decode cX12_init 171 = .ok (.putfield 160, 3) := by decide +kernel
theorem dX12_init_174 : decode cX12_init 174 = .ok (.aload_n 0, 1) := by decide +kernel
theorem dX12_init_175 : decode cX12_init 175 = .ok (.bipush 64, 2) := by decide +kernel
theorem dX12_init_177 : decode cX12_init 177 = .ok (.newarray .int, 2) := by decide +kernel
theorem dX12_init_179 : decode cX12_init 179 = .ok (.putfield 163, 3) := by decide +kernel
theorem dX12_init_182 : decode cX12_init 182 = .ok (.aload_n 0, 1) := by decide +kernel
theorem dX12_init_183 : decode cX12_init 183 = .ok (.sipush 240, 3) := by decide +kernel
theorem dX12_init_186 : decode cX12_init 186 = .ok (.newarray .int, 2) := by decide +kernel
theorem dX12_init_188 : decode cX12_init 188 = .ok (.putfield 166, 3) := by decide +kernel
theorem dX12_init_191 : decode cX12_init 191 = .ok (.aload_n 0, 1) := by decide +kernel
theorem dX12_init_192 : decode cX12_init 192 = .ok (.iconst 4, 1) := by decide +kernel
theorem dX12_init_193 : decode cX12_init 193 = .ok (.newarray .int, 2) := by decide +kernel
theorem dX12_init_195 : decode cX12_init 195 = .ok (.putfield 169, 3) := by decide +kernel
theorem dX12_init_198 : decode cX12_init 198 = .ok (.aload_n 0, 1) := by decide +kernel
theorem dX12_init_199 : decode cX12_init 199 = .ok (.sipush 240, 3) := by decide +kernel
theorem dX12_init_202 : decode cX12_init 202 = .ok (.newarray .int, 2) := by decide +kernel
theorem dX12_init_204 : decode cX12_init 204 = .ok (.putfield 172, 3) := by decide +kernel
theorem dX12_init_207 : decode cX12_init 207 = .ok (.aload_n 0, 1) := by decide +kernel
theorem dX12_init_208 : decode cX12_init 208 = .ok (.getfield 98, 3) := by decide +kernel
theorem dX12_init_211 : decode cX12_init 211 = .ok (.invokestatic 175, 3) := by decide +kernel
theorem dX12_init_214 : decode cX12_init 214 = .ok (.aload_n 0, 1) := by decide +kernel
theorem dX12_init_215 : decode cX12_init 215 = .ok (.invokevirtual 179, 3) := by decide +kernel
theorem dX12_init_218 : decode cX12_init 218 = .ok (.return_, 1) := by decide +kernel
theorem dX12_startTold_0 : decode cX12_startTold 0 = .ok (.iconst 0, 1) := by decide +kernel
theorem dX12_startTold_1 : decode cX12_startTold 1 = .ok (.istore_n 1, 1) := by decide +kernel
theorem dX12_startTold_2 : decode cX12_startTold 2 = .ok (.iload_n 1, 1) := by decide +kernel
theorem dX12_startTold_3 : decode cX12_startTold 3 = .ok (.sipush 815, 3) := by decide +kernel
theorem dX12_startTold_6 : decode cX12_startTold 6 = .ok (.if_icmp .ge 13, 3) := by decide +kernel
theorem dX12_startTold_9 : decode cX12_startTold 9 = .ok (.aload_n 0, 1) := by decide +kernel
theorem dX12_startTold_10 : decode cX12_startTold 10 = .ok (.iload_n 1, 1) := by decide +kernel
theorem dX12_startTold_11 : decode cX12_startTold 11 = .ok (.iconst 0, 1) := by decide +kernel
theorem dX12_startTold_12 : decode cX12_startTold 12 = .ok (.iastore, 1) := by decide +kernel
theorem dX12_startTold_13 : decode cX12_startTold 13 = .ok (.iinc 1 1, 3) := by decide +kernel
theorem dX12_startTold_16 : decode cX12_startTold 16 = .ok (.goto (-14), 3) := by decide +kernel
theorem dX12_startTold_19 : decode cX12_startTold 19 = .ok (.aload_n 0, 1) := by decide +kernel
theorem dX12_startTold_20 : decode cX12_startTold 20 = .ok (.iconst 2, 1) := by decide +kernel
theorem dX12_startTold_21 : decode cX12_startTold 21 = .ok (.iconst 2, 1) := by decide +kernel
theorem dX12_startTold_22 : decode cX12_startTold 22 = .ok (.iastore, 1) := by decide +kernel
theorem dX12_startTold_23 : decode cX12_startTold 23 = .ok (.aload_n 0, 1) := by decide +kernel
theorem dX12_startTold_24 : decode cX12_startTold 24 = .ok (.iconst 3, 1) := by decide +kernel
theorem dX12_startTold_25 : decode cX12_startTold 25 = .ok (.sipush 400, 3) := by decide +kernel
theorem dX12_startTold_28 : decode cX12_startTold 28 = .ok (.iastore, 1) := by decide +kernel
theorem dX12_startTold_29 : decode cX12_startTold 29 = .ok (.aload_n 0, 1) := by decide +kernel
theorem dX12_startTold_30 : decode cX12_startTold 30 = .ok (.iconst 4, 1) := by decide +kernel
theorem dX12_startTold_31 : decode cX12_startTold 31 = .ok (.bipush 10, 2) := by decide +kernel
theorem dX12_startTold_33 : decode cX12_startTold 33 = .ok (.iastore, 1) := by decide +kernel
theorem dX12_startTold_34 : decode cX12_startTold 34 = .ok (.return_, 1) := by decide +kernel
theorem dX12_startSo_0 : decode cX12_startSo 0 = .ok (.sipush 815, 3) := by decide +kernel
theorem dX12_startSo_3 : decode cX12_startSo 3 = .ok (.istore_n 1, 1) := by decide +kernel
theorem dX12_startSo_4 : decode cX12_startSo 4 = .ok (.iload_n 1, 1) := by decide +kernel
theorem dX12_startSo_5 : decode cX12_startSo 5 = .ok (.sipush 1920, 3) := by decide +kernel
theorem dX12_startSo_8 : decode cX12_startSo 8 = .ok (.if_icmp .ge 16, 3) := by decide +kernel
theorem dX12_startSo_11 : decode cX12_startSo 11 = .ok (.aload_n 0, 1) := by decide +kernel
theorem dX12_startSo_12 : decode cX12_startSo 12 = .ok (.getfield 98, 3) := by decide +kernel
theorem dX12_startSo_15 : decode cX12_startSo 15 = .ok (.iload_n 1, 1) := by decide +kernel
theorem dX12_startSo_16 : decode cX12_startSo 16 = .ok (.iconst 0, 1) := by decide +kernel
theorem dX12_startSo_17 : decode cX12_startSo 17 = .ok (.iastore, 1) := by decide +kernel
theorem dX12_startSo_18 : decode cX12_startSo 18 = .ok (.iinc 1 1, 3) := by decide +kernel
theorem dX12_startSo_21 : decode cX12_startSo 21 = .ok (.goto (-17), 3) := by decide +kernel
theorem dX12_startSo_24 : decode cX12_startSo 24 = .ok (.aload_n 0, 1) := by decide +kernel
theorem dX12_startSo_25 : decode cX12_startSo 25 = .ok (.getfield 98, 3) := by decide +kernel
theorem dX12_startSo_28 : decode cX12_startSo 28 = .ok (.sipush 815, 3) := by decide +kernel
theorem dX12_startSo_31 : decode cX12_startSo 31 = .ok (.aload_n 0, 1) := by decide +kernel
theorem dX12_startSo_32 : decode cX12_startSo 32 = .ok (.getfield 98, 3) := by decide +kernel
theorem dX12_startSo_35 : decode cX12_startSo 35 = .ok (.iconst 4, 1) := by decide +kernel
theorem dX12_startSo_36 : decode cX12_startSo 36 = .ok (.iaload, 1) := by decide +kernel
theorem dX12_startSo_37 : decode cX12_startSo 37 = .ok (.iastore, 1) := by decide +kernel
theorem dX12_startSo_38 : decode cX12_startSo 38 = .ok (.iconst 0, 1) := by decide +kernel
theorem dX12_startSo_39 : decode cX12_startSo 39 = .ok (.istore_n 1, 1) := by decide +kernel
theorem dX12_startSo_40 : decode cX12_startSo 40 = .ok (.iload_n 1, 1) := by decide +kernel
theorem dX12_startSo_41 : decode cX12_startSo 41 = .ok (.sipush 800, 3) := by decide +kernel
theorem dX12_startSo_44 : decode cX12_startSo 44 = .ok (.if_icmp .ge 28, 3) := by decide +kernel
theorem dX12_startSo_47 : decode cX12_startSo 47 = .ok (.aload_n 0, 1) := by decide +kernel
theorem dX12_startSo_48 : decode cX12_startSo 48 = .ok (.getfield 98, 3) := by decide +kernel
theorem dX12_startSo_51 : decode cX12_startSo 51 = .ok (.sipush 878, 3) := by decide +kernel
theorem dX12_startSo_54 : decode cX12_startSo 54 = .ok (.iload_n 1, 1) := by decide +kernel
theorem dX12_startSo_55 : decode cX12_startSo 55 = .ok (.iadd, 1) := by decide +kernel
theorem dX12_startSo_56 : decode cX12_startSo 56 = .ok (.aload_n 0, 1) := by decide +kernel
theorem dX12_startSo_57 : decode cX12_startSo 57 = .ok (.getfield 98, 3) := by decide +kernel
theorem dX12_startSo_60 : decode cX12_startSo 60 = .ok (.bipush 15, 2) := by decide +kernel
theorem dX12_startSo_62 : decode cX12_startSo 62 = .ok (.iload_n 1, 1) := by decide +kernel
theorem dX12_startSo_63 : decode cX12_startSo 63 = .ok (.iadd, 1) := by decide +kernel
theorem dX12_startSo_64 : decode cX12_startSo 64 = .ok (.iaload, 1) := by decide +kernel
theorem dX12_startSo_65 : decode cX12_startSo 65 = .ok (.iastore, 1) := by decide +kernel
theorem dX12_startSo_66 : decode cX12_startSo 66 = .ok (.iinc 1 1, 3) := by decide +kernel
theorem dX12_startSo_69 : decode cX12_startSo 69 = .ok (.goto (-29), 3) := by decide +kernel
theorem dX12_startSo_72 : decode cX12_startSo 72 = .ok (.return_, 1) := by decide +kernel
theorem dX12_findIn_0 : decode cX12_findIn 0 = .ok (.iconst 0, 1) := by decide +kernel
theorem dX12_findIn_1 : decode cX12_findIn 1 = .ok (.istore 4, 2) := by decide +kernel
theorem dX12_findIn_3 : decode cX12_findIn 3 = .ok (.iload 4, 2) := by decide +kernel
theorem dX12_findIn_5 : decode cX12_findIn 5 = .ok (.iload_n 1, 1) := by decide +kernel
theorem dX12_findIn_6 : decode cX12_findIn 6 = .ok (.if_icmp .ge 21, 3) := by decide +kernel
theorem dX12_findIn_9 : decode cX12_findIn 9 = .ok (.aload_n 0, 1) := by decide +kernel
theorem dX12_findIn_10 : decode cX12_findIn 10 = .ok (.iload 4, 2) := by decide +kernel
theorem dX12_findIn_12 : decode cX12_findIn 12 = .ok (.laload, 1) := by decide +kernel
theorem dX12_findIn_13 : decode cX12_findIn 13 = .ok (.lload_n 2, 1) := by decide +kernel
theorem dX12_findIn_14 : decode cX12_findIn 14 = .ok (.lcmp, 1) := by decide +kernel
theorem dX12_findIn_15 : decode cX12_findIn 15 = .ok (.ifCond .ne 6, 3) := by decide +kernel
theorem dX12_findIn_18 : decode cX12_findIn 18 = .ok (.iload 4, 2) := by decide +kernel
theorem dX12_findIn_20 : decode cX12_findIn 20 = .ok (.ireturn, 1) := by decide +kernel
theorem dX12_findIn_21 : decode cX12_findIn 21 = .ok (.iinc 4 1, 3) := by decide +kernel
theorem dX12_findIn_24 : decode cX12_findIn 24 = .ok (.goto (-21), 3) := by decide +kernel
theorem dX12_findIn_27 : decode cX12_findIn 27 = .ok (.iconst (-1), 1) := by decide +kernel
theorem dX12_findIn_28 : decode cX12_findIn 28 = .ok (.ireturn, 1) := by decide +kernel
theorem dX12_firstOf_0 : decode cX12_firstOf 0 = .ok (.iconst 0, 1) := by decide +kernel
theorem dX12_firstOf_1 : decode cX12_firstOf 1 = .ok (.istore_n 2, 1) := by decide +kernel
theorem dX12_firstOf_2 : decode cX12_firstOf 2 = .ok (.iconst 0, 1) := by decide +kernel
theorem dX12_firstOf_3 : decode cX12_firstOf 3 = .ok (.istore_n 3, 1) := by decide +kernel
theorem dX12_firstOf_4 : decode cX12_firstOf 4 = .ok (.iload_n 3, 1) := by decide +kernel
theorem dX12_firstOf_5 : decode cX12_firstOf 5 = .ok (.iload_n 1, 1) := by decide +kernel
theorem dX12_firstOf_6 : decode cX12_firstOf 6 = .ok (.if_icmp .ge 17, 3) := by decide +kernel
theorem dX12_firstOf_9 : decode cX12_firstOf 9 = .ok (.iload_n 2, 1) := by decide +kernel
theorem dX12_firstOf_10 : decode cX12_firstOf 10 = .ok (.aload_n 0, 1) := by decide +kernel
theorem dX12_firstOf_11 : decode cX12_firstOf 11 = .ok (.iconst 5, 1) := by decide +kernel
theorem dX12_firstOf_12 : decode cX12_firstOf 12 = .ok (.iload_n 3, 1) := by decide +kernel
theorem dX12_firstOf_13 : decode cX12_firstOf 13 = .ok (.iadd, 1) := by decide +kernel
theorem dX12_firstOf_14 : decode cX12_firstOf 14 = .ok (.iaload, 1) := by decide +kernel
theorem dX12_firstOf_15 : decode cX12_firstOf 15 = .ok (.iadd, 1) := by decide +kernel
theorem dX12_firstOf_16 : decode cX12_firstOf 16 = .ok (.istore_n 2, 1) := by decide +kernel
theorem dX12_firstOf_17 : decode cX12_firstOf 17 = .ok (.iinc 3 1, 3) := by decide +kernel
theorem dX12_firstOf_20 : decode cX12_firstOf 20 = .ok (.goto (-16), 3) := by decide +kernel
theorem dX12_firstOf_23 : decode cX12_firstOf 23 = .ok (.iload_n 2, 1) := by decide +kernel
theorem dX12_firstOf_24 : decode cX12_firstOf 24 = .ok (.ireturn, 1) := by decide +kernel
theorem dX12_litresIn_0 : decode cX12_litresIn 0 = .ok (.iconst 0, 1) := by decide +kernel
theorem dX12_litresIn_1 : decode cX12_litresIn 1 = .ok (.istore_n 2, 1) := by decide +kernel
theorem dX12_litresIn_2 : decode cX12_litresIn 2 = .ok (.iconst 0, 1) := by decide +kernel
theorem dX12_litresIn_3 : decode cX12_litresIn 3 = .ok (.istore_n 3, 1) := by decide +kernel
theorem dX12_litresIn_4 : decode cX12_litresIn 4 = .ok (.iload_n 3, 1) := by decide +kernel
theorem dX12_litresIn_5 : decode cX12_litresIn 5 = .ok (.bipush 40, 2) := by decide +kernel
theorem dX12_litresIn_7 : decode cX12_litresIn 7 = .ok (.if_icmp .ge 17, 3) := by decide +kernel
theorem dX12_litresIn_10 : decode cX12_litresIn 10 = .ok (.iload_n 2, 1) := by decide +kernel
theorem dX12_litresIn_11 : decode cX12_litresIn 11 = .ok (.aload_n 0, 1) := by decide +kernel
theorem dX12_litresIn_12 : decode cX12_litresIn 12 = .ok (.iload_n 1, 1) := by decide +kernel
theorem dX12_litresIn_13 : decode cX12_litresIn 13 = .ok (.iload_n 3, 1) := by decide +kernel
theorem dX12_litresIn_14 : decode cX12_litresIn 14 = .ok (.iadd, 1) := by decide +kernel
theorem dX12_litresIn_15 : decode cX12_litresIn 15 = .ok (.iaload, 1) := by decide +kernel
theorem dX12_litresIn_16 : decode cX12_litresIn 16 = .ok (.iadd, 1) := by decide +kernel
theorem dX12_litresIn_17 : decode cX12_litresIn 17 = .ok (.istore_n 2, 1) := by decide +kernel
theorem dX12_litresIn_18 : decode cX12_litresIn 18 = .ok (.iinc 3 1, 3) := by decide +kernel
theorem dX12_litresIn_21 : decode cX12_litresIn 21 = .ok (.goto (-17), 3) := by decide +kernel
theorem dX12_litresIn_24 : decode cX12_litresIn 24 = .ok (.iload_n 2, 1) := by decide +kernel
theorem dX12_litresIn_25 : decode cX12_litresIn 25 = .ok (.ireturn, 1) := by decide +kernel
theorem dX12_put_0 : decode cX12_put 0 = .ok (.iload_n 2, 1) := by decide +kernel
theorem dX12_put_1 : decode cX12_put 1 = .ok (.ifCond .eq 13, 3) := by decide +kernel
theorem dX12_put_4 : decode cX12_put 4 = .ok (.aload_n 0, 1) := by decide +kernel
theorem dX12_put_5 : decode cX12_put 5 = .ok (.getfield 101, 3) := by decide +kernel
theorem dX12_put_8 : decode cX12_put 8 = .ok (.iload_n 1, 1) := by decide +kernel
theorem dX12_put_9 : decode cX12_put 9 = .ok (.aload_n 0, 1) := by decide +kernel
theorem dX12_put_10 : decode cX12_put 10 = .ok (.getfield 79, 3) := by decide +kernel
theorem dX12_put_13 : decode cX12_put 13 = .ok (.iastore, 1) := by decide +kernel
theorem dX12_put_14 : decode cX12_put 14 = .ok (.iload_n 2, 1) := by decide +kernel
theorem dX12_put_15 : decode cX12_put 15 = .ok (.ireturn, 1) := by decide +kernel
theorem dX12_readScale_0 : decode cX12_readScale 0 = .ok (.aload_n 0, 1) := by decide +kernel
theorem dX12_readScale_1 : decode cX12_readScale 1 = .ok (.getfield 101, 3) := by decide +kernel
theorem dX12_readScale_4 : decode cX12_readScale 4 = .ok (.iconst 0, 1) := by decide +kernel
theorem dX12_readScale_5 : decode cX12_readScale 5 = .ok (.iaload, 1) := by decide +kernel
theorem dX12_readScale_6 : decode cX12_readScale 6 = .ok (.istore_n 1, 1) := by decide +kernel
theorem dX12_readScale_7 : decode cX12_readScale 7 = .ok (.iload_n 1, 1) := by decide +kernel
theorem dX12_readScale_8 : decode cX12_readScale 8 = .ok (.iconst 5, 1) := by decide +kernel
theorem dX12_readScale_9 : decode cX12_readScale 9 = .ok (.if_icmp .ne 9, 3) := by decide +kernel
theorem dX12_readScale_12 : decode cX12_readScale 12 = .ok (.aload_n 0, 1) := by decide +kernel
theorem dX12_readScale_13 : decode cX12_readScale 13 = .ok (.iconst 4, 1) := by decide +kernel
theorem dX12_readScale_14 : decode cX12_readScale 14 = .ok (.invokevirtual 72, 3) := by decide +kernel
theorem dX12_readScale_17 : decode cX12_readScale 17 = .ok (.ireturn, 1) := by decide +kernel
theorem dX12_readScale_18 : decode cX12_readScale 18 = .ok (.aload_n 0, 1) := by decide +kernel
theorem dX12_readScale_19 : decode cX12_readScale 19 = .ok (.invokevirtual 82, 3) := by decide +kernel
theorem dX12_readScale_22 : decode cX12_readScale 22 = .ok (.aload_n 0, 1) := by decide +kernel
theorem dX12_readScale_23 : decode cX12_readScale 23 = .ok (.invokevirtual 182, 3) := by decide +kernel
theorem dX12_readScale_26 : decode cX12_readScale 26 = .ok (.ifCond .ne 9, 3) := by decide +kernel
theorem dX12_readScale_29 : decode cX12_readScale 29 = .ok (.aload_n 0, 1) := by decide +kernel
theorem dX12_readScale_30 : decode cX12_readScale 30 = .ok (.iconst 1, 1) := by decide +kernel
theorem dX12_readScale_31 : decode cX12_readScale 31 = .ok (.invokevirtual 72, 3) := by decide +kernel
theorem dX12_readScale_34 : decode cX12_readScale 34 = .ok (.ireturn, 1) := by decide +kernel
theorem dX12_readScale_35 : decode cX12_readScale 35 = .ok (.aload_n 0, 1) := by decide +kernel
theorem dX12_readScale_36 : decode cX12_readScale 36 = .ok (.getfield 117, 3) := by decide +kernel
theorem dX12_readScale_39 : decode cX12_readScale 39 = .ok (.iload_n 1, 1) := by decide +kernel
theorem dX12_readScale_40 : decode cX12_readScale 40 = .ok (.aload_n 0, 1) := by decide +kernel
theorem dX12_readScale_41 : decode cX12_readScale 41 = .ok (.getfield 43, 3) := by decide +kernel
theorem dX12_readScale_44 : decode cX12_readScale 44 = .ok (.invokestatic 186, 3) := by decide +kernel
theorem dX12_readScale_47 : decode cX12_readScale 47 = .ok (.iconst (-1), 1) := by decide +kernel
theorem dX12_readScale_48 : decode cX12_readScale 48 = .ok (.if_icmp .eq 9, 3) := by decide +kernel
theorem dX12_readScale_51 : decode cX12_readScale 51 = .ok (.aload_n 0, 1) := by decide +kernel
theorem dX12_readScale_52 : decode cX12_readScale 52 = .ok (.iconst 3, 1) := by decide +kernel
theorem dX12_readScale_53 : decode cX12_readScale 53 = .ok (.invokevirtual 72, 3) := by decide +kernel
theorem dX12_readScale_56 : decode cX12_readScale 56 = .ok (.ireturn, 1) := by decide +kernel
theorem dX12_readScale_57 : decode cX12_readScale 57 = .ok (.aload_n 0, 1) := by decide +kernel
theorem dX12_readScale_58 : decode cX12_readScale 58 = .ok (.getfield 117, 3) := by decide +kernel
theorem dX12_readScale_61 : decode cX12_readScale 61 = .ok (.iload_n 1, 1) := by decide +kernel
theorem dX12_readScale_62 : decode cX12_readScale 62 = .ok (.aload_n 0, 1) := by decide +kernel
theorem dX12_readScale_63 : decode cX12_readScale 63 = .ok (.getfield 43, 3) := by decide +kernel
theorem dX12_readScale_66 : decode cX12_readScale 66 = .ok (.lastore, 1) := by decide +kernel
theorem dX12_readScale_67 : decode cX12_readScale 67 = .ok (.aload_n 0, 1) := by decide +kernel
theorem dX12_readScale_68 : decode cX12_readScale 68 = .ok (.invokevirtual 82, 3) := by decide +kernel
theorem dX12_readScale_71 : decode cX12_readScale 71 = .ok (.aload_n 0, 1) := by decide +kernel
theorem dX12_readScale_72 : decode cX12_readScale 72 = .ok (.iconst 5, 1) := by decide +kernel
theorem dX12_readScale_73 : decode cX12_readScale 73 = .ok (.iload_n 1, 1) := by decide +kernel
theorem dX12_readScale_74 : decode cX12_readScale 74 = .ok (.iadd, 1) := by decide +kernel
theorem dX12_readScale_75 : decode cX12_readScale 75 = .ok (.aload_n 0, 1) := by decide +kernel
theorem dX12_readScale_76 : decode cX12_readScale 76 = .ok (.iconst 1, 1) := by decide +kernel
theorem dX12_readScale_77 : decode cX12_readScale 77 = .ok (.iconst 4, 1) := by decide +kernel
theorem dX12_readScale_78 : decode cX12_readScale 78 = .ok (.invokevirtual 190, 3) := by decide +kernel
theorem dX12_readScale_81 : decode cX12_readScale 81 = .ok (.invokevirtual 194, 3) := by decide +kernel
theorem dX12_readScale_84 : decode cX12_readScale 84 = .ok (.ifCond .eq 23, 3) := by decide +kernel
theorem dX12_readScale_87 : decode cX12_readScale 87 = .ok (.aload_n 0, 1) := by decide +kernel
theorem dX12_readScale_88 : decode cX12_readScale 88 = .ok (.bipush 10, 2) := by decide +kernel
theorem dX12_readScale_90 : decode cX12_readScale 90 = .ok (.iload_n 1, 1) := by decide +kernel
theorem dX12_readScale_91 : decode cX12_readScale 91 = .ok (.iadd, 1) := by decide +kernel
theorem dX12_readScale_92 : decode cX12_readScale 92 = .ok (.aload_n 0, 1) := by decide +kernel
theorem dX12_readScale_93 : decode cX12_readScale 93 = .ok (.bipush 10, 2) := by decide +kernel
theorem dX12_readScale_95 : decode cX12_readScale 95 = .ok (.sipush 400, 3) := by decide +kernel
theorem dX12_readScale_98 : decode cX12_readScale 98 = .ok (.invokevirtual 190, 3) := by decide +kernel
theorem dX12_readScale_101 : decode cX12_readScale 101 = .ok (.invokevirtual 194, 3) := by decide +kernel
theorem dX12_readScale_104 : decode cX12_readScale 104 = .ok (.ifCond .ne 5, 3) := by decide +kernel
theorem dX12_readScale_107 : decode cX12_readScale 107 = .ok (.iconst 0, 1) := by decide +kernel
theorem dX12_readScale_108 : decode cX12_readScale 108 = .ok (.ireturn, 1) := by decide +kernel
theorem dX12_readScale_109 : decode cX12_readScale 109 = .ok (.aload_n 0, 1) := by decide +kernel
theorem dX12_readScale_110 : decode cX12_readScale 110 = .ok (.getfield 101, 3) := by decide +kernel
theorem dX12_readScale_113 : decode cX12_readScale 113 = .ok (.iconst 0, 1) := by decide +kernel
theorem dX12_readScale_114 : decode cX12_readScale 114 = .ok (.dup2, 1) := by decide +kernel
theorem dX12_readScale_115 : decode cX12_readScale 115 = .ok (.iaload, 1) := by decide +kernel
theorem dX12_readScale_116 : decode cX12_readScale 116 = .ok (.iconst 1, 1) := by decide +kernel
theorem dX12_readScale_117 : decode cX12_readScale 117 = .ok (.iadd, 1) := by decide +kernel
theorem dX12_readScale_118 : decode cX12_readScale 118 = .ok (.iastore, 1) := by decide +kernel
theorem dX12_readScale_119 : decode cX12_readScale 119 = .ok (.aload_n 0, 1) := by decide +kernel
theorem dX12_readScale_120 : decode cX12_readScale 120 = .ok (.getfield 101, 3) := by decide +kernel
theorem dX12_readScale_123 : decode cX12_readScale 123 = .ok (.iconst 1, 1) := by decide +kernel
theorem dX12_readScale_124 : decode cX12_readScale 124 = .ok (.dup2, 1) := by decide +kernel
theorem dX12_readScale_125 : decode cX12_readScale 125 = .ok (.iaload, 1) := by decide +kernel
theorem dX12_readScale_126 : decode cX12_readScale 126 = .ok (.aload_n 0, 1) := by decide +kernel
theorem dX12_readScale_127 : decode cX12_readScale 127 = .ok (.getfield 101, 3) := by decide +kernel
theorem dX12_readScale_130 : decode cX12_readScale 130 = .ok (.iconst 5, 1) := by decide +kernel
theorem dX12_readScale_131 : decode cX12_readScale 131 = .ok (.iload_n 1, 1) := by decide +kernel
theorem dX12_readScale_132 : decode cX12_readScale 132 = .ok (.iadd, 1) := by decide +kernel
theorem dX12_readScale_133 : decode cX12_readScale 133 = .ok (.iaload, 1) := by decide +kernel
theorem dX12_readScale_134 : decode cX12_readScale 134 = .ok (.iadd, 1) := by decide +kernel
theorem dX12_readScale_135 : decode cX12_readScale 135 = .ok (.iastore, 1) := by decide +kernel
theorem dX12_readScale_136 : decode cX12_readScale 136 = .ok (.iconst 1, 1) := by decide +kernel
theorem dX12_readScale_137 : decode cX12_readScale 137 = .ok (.ireturn, 1) := by decide +kernel
theorem dX12_readWine_0 : decode cX12_readWine 0 = .ok (.aload_n 0, 1) := by decide +kernel
theorem dX12_readWine_1 : decode cX12_readWine 1 = .ok (.iconst 1, 1) := by decide +kernel
theorem dX12_readWine_2 : decode cX12_readWine 2 = .ok (.putfield 198, 3) := by decide +kernel
theorem dX12_readWine_5 : decode cX12_readWine 5 = .ok (.aload_n 0, 1) := by decide +kernel
theorem dX12_readWine_6 : decode cX12_readWine 6 = .ok (.invokevirtual 82, 3) := by decide +kernel
theorem dX12_readWine_9 : decode cX12_readWine 9 = .ok (.aload_n 0, 1) := by decide +kernel
theorem dX12_readWine_10 : decode cX12_readWine 10 = .ok (.invokevirtual 182, 3) := by decide +kernel
theorem dX12_readWine_13 : decode cX12_readWine 13 = .ok (.ifCond .ne 9, 3) := by decide +kernel
theorem dX12_readWine_16 : decode cX12_readWine 16 = .ok (.aload_n 0, 1) := by decide +kernel
theorem dX12_readWine_17 : decode cX12_readWine 17 = .ok (.iconst 1, 1) := by decide +kernel
theorem dX12_readWine_18 : decode cX12_readWine 18 = .ok (.invokevirtual 72, 3) := by decide +kernel
theorem dX12_readWine_21 : decode cX12_readWine 21 = .ok (.ireturn, 1) := by decide +kernel
theorem dX12_readWine_22 : decode cX12_readWine 22 = .ok (.aload_n 0, 1) := by decide +kernel
theorem dX12_readWine_23 : decode cX12_readWine 23 = .ok (.getfield 117, 3) := by decide +kernel
theorem dX12_readWine_26 : decode cX12_readWine 26 = .ok (.aload_n 0, 1) := by decide +kernel
theorem dX12_readWine_27 : decode cX12_readWine 27 = .ok (.getfield 101, 3) := by decide +kernel
theorem dX12_readWine_30 : decode cX12_readWine 30 = .ok (.iconst 0, 1) := by decide +kernel
theorem dX12_readWine_31 : decode cX12_readWine 31 = .ok (.iaload, 1) := by decide +kernel
theorem dX12_readWine_32 : decode cX12_readWine 32 = .ok (.aload_n 0, 1) := by decide +kernel
theorem dX12_readWine_33 : decode cX12_readWine 33 = .ok (.getfield 43, 3) := by decide +kernel
theorem dX12_readWine_36 : decode cX12_readWine 36 = .ok (.invokestatic 186, 3) := by decide +kernel
theorem dX12_readWine_39 : decode cX12_readWine 39 = .ok (.istore_n 1, 1) := by decide +kernel
theorem dX12_readWine_40 : decode cX12_readWine 40 = .ok (.iload_n 1, 1) := by decide +kernel
theorem dX12_readWine_41 : decode cX12_readWine 41 = .ok (.iconst (-1), 1) := by decide +kernel
theorem dX12_readWine_42 : decode cX12_readWine 42 = .ok (.if_icmp .ne 9, 3) := by decide +kernel
theorem dX12_readWine_45 : decode cX12_readWine 45 = .ok (.aload_n 0, 1) := by decide +kernel
theorem dX12_readWine_46 : decode cX12_readWine 46 = .ok (.iconst 3, 1) := by decide +kernel
theorem dX12_readWine_47 : decode cX12_readWine 47 = .ok (.invokevirtual 72, 3) := by decide +kernel
theorem dX12_readWine_50 : decode cX12_readWine 50 = .ok (.ireturn, 1) := by decide +kernel
theorem dX12_readWine_51 : decode cX12_readWine 51 = .ok (.aload_n 0, 1) := by decide +kernel
theorem dX12_readWine_52 : decode cX12_readWine 52 = .ok (.invokevirtual 82, 3) := by decide +kernel
theorem dX12_readWine_55 : decode cX12_readWine 55 = .ok (.aload_n 0, 1) := by decide +kernel
theorem dX12_readWine_56 : decode cX12_readWine 56 = .ok (.iconst 0, 1) := by decide +kernel
theorem dX12_readWine_57 : decode cX12_readWine 57 = .ok (.aload_n 0, 1) := by decide +kernel
theorem dX12_readWine_58 : decode cX12_readWine 58 = .ok (.getfield 101, 3) := by decide +kernel
theorem dX12_readWine_61 : decode cX12_readWine 61 = .ok (.iconst 5, 1) := by decide +kernel
theorem dX12_readWine_62 : decode cX12_readWine 62 = .ok (.iload_n 1, 1) := by decide +kernel
theorem dX12_readWine_63 : decode cX12_readWine 63 = .ok (.iadd, 1) := by decide +kernel
theorem dX12_readWine_64 : decode cX12_readWine 64 = .ok (.iaload, 1) := by decide +kernel
theorem dX12_readWine_65 : decode cX12_readWine 65 = .ok (.iconst 1, 1) := by decide +kernel
theorem dX12_readWine_66 : decode cX12_readWine 66 = .ok (.isub, 1) := by decide +kernel
theorem dX12_readWine_67 : decode cX12_readWine 67 = .ok (.invokevirtual 190, 3) := by decide +kernel
theorem dX12_readWine_70 : decode cX12_readWine 70 = .ok (.ifCond .ne 5, 3) := by decide +kernel
theorem dX12_readWine_73 : decode cX12_readWine 73 = .ok (.iconst 0, 1) := by decide +kernel
theorem dX12_readWine_74 : decode cX12_readWine 74 = .ok (.ireturn, 1) := by decide +kernel
theorem dX12_readWine_75 : decode cX12_readWine 75 = .ok (.bipush 15, 2) := by decide +kernel
theorem dX12_readWine_77 : decode cX12_readWine 77 = .ok (.bipush 40, 2) := by decide +kernel
theorem dX12_readWine_79 : decode cX12_readWine 79 = .ok (.aload_n 0, 1) := by decide +kernel
theorem dX12_readWine_80 : decode cX12_readWine 80 = .ok (.getfield 101, 3) := by decide +kernel
theorem dX12_readWine_83 : decode cX12_readWine 83 = .ok (.iload_n 1, 1) := by decide +kernel
theorem dX12_readWine_84 : decode cX12_readWine 84 = .ok (.invokestatic 202, 3) := by decide +kernel
theorem dX12_readWine_87 : decode cX12_readWine 87 = .ok (.aload_n 0, 1) := by decide +kernel
theorem dX12_readWine_88 : decode cX12_readWine 88 = .ok (.getfield 79, 3) := by decide +kernel
theorem dX12_readWine_91 : decode cX12_readWine 91 = .ok (.iadd, 1) := by decide +kernel
theorem dX12_readWine_92 : decode cX12_readWine 92 = .ok (.imul, 1) := by decide +kernel
theorem dX12_readWine_93 : decode cX12_readWine 93 = .ok (.iadd, 1) := by decide +kernel
theorem dX12_readWine_94 : decode cX12_readWine 94 = .ok (.istore_n 2, 1) := by decide +kernel
theorem dX12_readWine_95 : decode cX12_readWine 95 = .ok (.aload_n 0, 1) := by decide +kernel
theorem dX12_readWine_96 : decode cX12_readWine 96 = .ok (.iconst 0, 1) := by decide +kernel
theorem dX12_readWine_97 : decode cX12_readWine 97 = .ok (.aload_n 0, 1) := by decide +kernel
theorem dX12_readWine_98 : decode cX12_readWine 98 = .ok (.getfield 101, 3) := by decide +kernel
theorem dX12_readWine_101 : decode cX12_readWine 101 = .ok (.iconst 4, 1) := by decide +kernel
theorem dX12_readWine_102 : decode cX12_readWine 102 = .ok (.iaload, 1) := by decide +kernel
theorem dX12_readWine_103 : decode cX12_readWine 103 = .ok (.invokevirtual 190, 3) := by decide +kernel
theorem dX12_readWine_106 : decode cX12_readWine 106 = .ok (.ifCond .ne 5, 3) := by decide +kernel
theorem dX12_readWine_109 : decode cX12_readWine 109 = .ok (.iconst 0, 1) := by decide +kernel
theorem dX12_readWine_110 : decode cX12_readWine 110 = .ok (.ireturn, 1) := by decide +kernel
theorem dX12_readWine_111 : decode cX12_readWine 111 = .ok (.aload_n 0, 1) := by decide +kernel
theorem dX12_readWine_112 : decode cX12_readWine 112 = .ok (.getfield 79, 3) := by decide +kernel
theorem dX12_readWine_115 : decode cX12_readWine 115 = .ok (.istore_n 3, 1) := by decide +kernel
theorem dX12_readWine_116 : decode cX12_readWine 116 = .ok (.aload_n 0, 1) := by decide +kernel
theorem dX12_readWine_117 : decode cX12_readWine 117 = .ok (.iconst 1, 1) := by decide +kernel
theorem dX12_readWine_118 : decode cX12_readWine 118 = .ok (.aload_n 0, 1) := by decide +kernel
theorem dX12_readWine_119 : decode cX12_readWine 119 = .ok (.getfield 101, 3) := by decide +kernel
theorem dX12_readWine_122 : decode cX12_readWine 122 = .ok (.bipush 10, 2) := by decide +kernel
theorem dX12_readWine_124 : decode cX12_readWine 124 = .ok (.iload_n 1, 1) := by decide +kernel
theorem dX12_readWine_125 : decode cX12_readWine 125 = .ok (.iadd, 1) := by decide +kernel
theorem dX12_readWine_126 : decode cX12_readWine 126 = .ok (.iaload, 1) := by decide +kernel
theorem dX12_readWine_127 : decode cX12_readWine 127 = .ok (.aload_n 0, 1) := by decide +kernel
theorem dX12_readWine_128 : decode cX12_readWine 128 = .ok (.getfield 101, 3) := by decide +kernel
theorem dX12_readWine_131 : decode cX12_readWine 131 = .ok (.iload_n 2, 1) := by decide +kernel
theorem dX12_readWine_132 : decode cX12_readWine 132 = .ok (.invokestatic 206, 3) := by decide +kernel
theorem dX12_readWine_135 : decode cX12_readWine 135 = .ok (.isub, 1) := by decide +kernel
theorem dX12_readWine_136 : decode cX12_readWine 136 = .ok (.invokevirtual 190, 3) := by decide +kernel
theorem dX12_readWine_139 : decode cX12_readWine 139 = .ok (.ifCond .ne 5, 3) := by decide +kernel
theorem dX12_readWine_142 : decode cX12_readWine 142 = .ok (.iconst 0, 1) := by decide +kernel
theorem dX12_readWine_143 : decode cX12_readWine 143 = .ok (.ireturn, 1) := by decide +kernel
theorem dX12_readWine_144 : decode cX12_readWine 144 = .ok (.aload_n 0, 1) := by decide +kernel
theorem dX12_readWine_145 : decode cX12_readWine 145 = .ok (.getfield 101, 3) := by decide +kernel
theorem dX12_readWine_148 : decode cX12_readWine 148 = .ok (.iload_n 2, 1) := by decide +kernel
theorem dX12_readWine_149 : decode cX12_readWine 149 = .ok (.iload_n 3, 1) := by decide +kernel
theorem dX12_readWine_150 : decode cX12_readWine 150 = .ok (.iadd, 1) := by decide +kernel
theorem dX12_readWine_151 : decode cX12_readWine 151 = .ok (.dup2, 1) := by decide +kernel
theorem dX12_readWine_152 : decode cX12_readWine 152 = .ok (.iaload, 1) := by decide +kernel
theorem dX12_readWine_153 : decode cX12_readWine 153 = .ok (.aload_n 0, 1) := by decide +kernel
theorem dX12_readWine_154 : decode cX12_readWine 154 = .ok (.getfield 79, 3) := by decide +kernel
theorem dX12_readWine_157 : decode cX12_readWine 157 = .ok (.iadd, 1) := by decide +kernel
theorem dX12_readWine_158 : decode cX12_readWine 158 = .ok (.iastore, 1) := by decide +kernel
theorem dX12_readWine_159 : decode cX12_readWine 159 = .ok (.iconst 1, 1) := by decide +kernel
theorem dX12_readWine_160 : decode cX12_readWine 160 = .ok (.ireturn, 1) := by decide +kernel
theorem dX12_readYear_0 : decode cX12_readYear 0 = .ok (.aload_n 0, 1) := by decide +kernel
theorem dX12_readYear_1 : decode cX12_readYear 1 = .ok (.getfield 209, 3) := by decide +kernel
theorem dX12_readYear_4 : decode cX12_readYear 4 = .ok (.ifCond .ne 10, 3) := by decide +kernel
theorem dX12_readYear_7 : decode cX12_readYear 7 = .ok (.aload_n 0, 1) := by decide +kernel
theorem dX12_readYear_8 : decode cX12_readYear 8 = .ok (.getfield 198, 3) := by decide +kernel
theorem dX12_readYear_11 : decode cX12_readYear 11 = .ok (.ifCond .eq 9, 3) := by decide +kernel
theorem dX12_readYear_14 : decode cX12_readYear 14 = .ok (.aload_n 0, 1) := by decide +kernel
theorem dX12_readYear_15 : decode cX12_readYear 15 = .ok (.iconst 3, 1) := by decide +kernel
theorem dX12_readYear_16 : decode cX12_readYear 16 = .ok (.invokevirtual 72, 3) := by decide +kernel
theorem dX12_readYear_19 : decode cX12_readYear 19 = .ok (.ireturn, 1) := by decide +kernel
theorem dX12_readYear_20 : decode cX12_readYear 20 = .ok (.aload_n 0, 1) := by decide +kernel
theorem dX12_readYear_21 : decode cX12_readYear 21 = .ok (.iconst 1, 1) := by decide +kernel
theorem dX12_readYear_22 : decode cX12_readYear 22 = .ok (.putfield 209, 3) := by decide +kernel
theorem dX12_readYear_25 : decode cX12_readYear 25 = .ok (.aload_n 0, 1) := by decide +kernel
theorem dX12_readYear_26 : decode cX12_readYear 26 = .ok (.invokevirtual 82, 3) := by decide +kernel
theorem dX12_readYear_29 : decode cX12_readYear 29 = .ok (.aload_n 0, 1) := by decide +kernel
theorem dX12_readYear_30 : decode cX12_readYear 30 = .ok (.iconst 4, 1) := by decide +kernel
theorem dX12_readYear_31 : decode cX12_readYear 31 = .ok (.aload_n 0, 1) := by decide +kernel
theorem dX12_readYear_32 : decode cX12_readYear 32 = .ok (.iconst 0, 1) := by decide +kernel
theorem dX12_readYear_33 : decode cX12_readYear 33 = .ok (.bipush 29, 2) := by decide +kernel
theorem dX12_readYear_35 : decode cX12_readYear 35 = .ok (.invokevirtual 190, 3) := by decide +kernel
theorem dX12_readYear_38 : decode cX12_readYear 38 = .ok (.invokevirtual 194, 3) := by decide +kernel
theorem dX12_readYear_41 : decode cX12_readYear 41 = .ok (.ireturn, 1) := by decide +kernel
theorem dX12_readAngels_0 : decode cX12_readAngels 0 = .ok (.aload_n 0, 1) := by decide +kernel
theorem dX12_readAngels_1 : decode cX12_readAngels 1 = .ok (.getfield 212, 3) := by decide +kernel
theorem dX12_readAngels_4 : decode cX12_readAngels 4 = .ok (.ifCond .eq 9, 3) := by decide +kernel
theorem dX12_readAngels_7 : decode cX12_readAngels 7 = .ok (.aload_n 0, 1) := by decide +kernel
theorem dX12_readAngels_8 : decode cX12_readAngels 8 = .ok (.iconst 3, 1) := by decide +kernel
theorem dX12_readAngels_9 : decode cX12_readAngels 9 = .ok (.invokevirtual 72, 3) := by decide +kernel
theorem dX12_readAngels_12 : decode cX12_readAngels 12 = .ok (.ireturn, 1) := by decide +kernel
theorem dX12_readAngels_13 : decode cX12_readAngels 13 = .ok (.aload_n 0, 1) := by decide +kernel
theorem dX12_readAngels_14 : decode cX12_readAngels 14 = .ok (.iconst 1, 1) := by decide +kernel
theorem dX12_readAngels_15 : decode cX12_readAngels 15 = .ok (.putfield 212, 3) := by decide +kernel
theorem dX12_readAngels_18 : decode cX12_readAngels 18 = .ok (.aload_n 0, 1) := by decide +kernel
theorem dX12_readAngels_19 : decode cX12_readAngels 19 = .ok (.invokevirtual 82, 3) := by decide +kernel
theorem dX12_readAngels_22 : decode cX12_readAngels 22 = .ok (.aload_n 0, 1) := by decide +kernel
theorem dX12_readAngels_23 : decode cX12_readAngels 23 = .ok (.iconst 2, 1) := by decide +kernel
theorem dX12_readAngels_24 : decode cX12_readAngels 24 = .ok (.aload_n 0, 1) := by decide +kernel
theorem dX12_readAngels_25 : decode cX12_readAngels 25 = .ok (.iconst 0, 1) := by decide +kernel
theorem dX12_readAngels_26 : decode cX12_readAngels 26 = .ok (.bipush 9, 2) := by decide +kernel
theorem dX12_readAngels_28 : decode cX12_readAngels 28 = .ok (.invokevirtual 190, 3) := by decide +kernel
theorem dX12_readAngels_31 : decode cX12_readAngels 31 = .ok (.invokevirtual 194, 3) := by decide +kernel
theorem dX12_readAngels_34 : decode cX12_readAngels 34 = .ok (.ireturn, 1) := by decide +kernel
theorem dX12_readMost_0 : decode cX12_readMost 0 = .ok (.aload_n 0, 1) := by decide +kernel
theorem dX12_readMost_1 : decode cX12_readMost 1 = .ok (.getfield 215, 3) := by decide +kernel
theorem dX12_readMost_4 : decode cX12_readMost 4 = .ok (.ifCond .eq 9, 3) := by decide +kernel
theorem dX12_readMost_7 : decode cX12_readMost 7 = .ok (.aload_n 0, 1) := by decide +kernel
theorem dX12_readMost_8 : decode cX12_readMost 8 = .ok (.iconst 3, 1) := by decide +kernel
theorem dX12_readMost_9 : decode cX12_readMost 9 = .ok (.invokevirtual 72, 3) := by decide +kernel
theorem dX12_readMost_12 : decode cX12_readMost 12 = .ok (.ireturn, 1) := by decide +kernel
theorem dX12_readMost_13 : decode cX12_readMost 13 = .ok (.aload_n 0, 1) := by decide +kernel
theorem dX12_readMost_14 : decode cX12_readMost 14 = .ok (.iconst 1, 1) := by decide +kernel
theorem dX12_readMost_15 : decode cX12_readMost 15 = .ok (.putfield 215, 3) := by decide +kernel
theorem dX12_readMost_18 : decode cX12_readMost 18 = .ok (.aload_n 0, 1) := by decide +kernel
theorem dX12_readMost_19 : decode cX12_readMost 19 = .ok (.invokevirtual 82, 3) := by decide +kernel
theorem dX12_readMost_22 : decode cX12_readMost 22 = .ok (.aload_n 0, 1) := by decide +kernel
theorem dX12_readMost_23 : decode cX12_readMost 23 = .ok (.iconst 3, 1) := by decide +kernel
theorem dX12_readMost_24 : decode cX12_readMost 24 = .ok (.aload_n 0, 1) := by decide +kernel
theorem dX12_readMost_25 : decode cX12_readMost 25 = .ok (.iconst 1, 1) := by decide +kernel
theorem dX12_readMost_26 : decode cX12_readMost 26 = .ok (.sipush 400, 3) := by decide +kernel
theorem dX12_readMost_29 : decode cX12_readMost 29 = .ok (.invokevirtual 190, 3) := by decide +kernel
theorem dX12_readMost_32 : decode cX12_readMost 32 = .ok (.invokevirtual 194, 3) := by decide +kernel
theorem dX12_readMost_35 : decode cX12_readMost 35 = .ok (.ireturn, 1) := by decide +kernel
theorem dX12_readLine_0 : decode cX12_readLine 0 = .ok (.aload_n 0, 1) := by decide +kernel
theorem dX12_readLine_1 : decode cX12_readLine 1 = .ok (.iconst 0, 1) := by decide +kernel
theorem dX12_readLine_2 : decode cX12_readLine 2 = .ok (.invokevirtual 218, 3) := by decide +kernel
theorem dX12_readLine_5 : decode cX12_readLine 5 = .ok (.ifCond .eq 8, 3) := by decide +kernel
theorem dX12_readLine_8 : decode cX12_readLine 8 = .ok (.aload_n 0, 1) := by decide +kernel
theorem dX12_readLine_9 : decode cX12_readLine 9 = .ok (.invokevirtual 221, 3) := by decide +kernel
theorem dX12_readLine_12 : decode cX12_readLine 12 = .ok (.ireturn, 1) := by decide +kernel
theorem dX12_readLine_13 : decode cX12_readLine 13 = .ok (.aload_n 0, 1) := by decide +kernel
theorem dX12_readLine_14 : decode cX12_readLine 14 = .ok (.iconst 1, 1) := by decide +kernel
theorem dX12_readLine_15 : decode cX12_readLine 15 = .ok (.invokevirtual 218, 3) := by decide +kernel
theorem dX12_readLine_18 : decode cX12_readLine 18 = .ok (.ifCond .eq 8, 3) := by decide +kernel
theorem dX12_readLine_21 : decode cX12_readLine 21 = .ok (.aload_n 0, 1) := by decide +kernel
theorem dX12_readLine_22 : decode cX12_readLine 22 = .ok (.invokevirtual 224, 3) := by decide +kernel
theorem dX12_readLine_25 : decode cX12_readLine 25 = .ok (.ireturn, 1) := by decide +kernel
theorem dX12_readLine_26 : decode cX12_readLine 26 = .ok (.aload_n 0, 1) := by decide +kernel
theorem dX12_readLine_27 : decode cX12_readLine 27 = .ok (.iconst 2, 1) := by decide +kernel
theorem dX12_readLine_28 : decode cX12_readLine 28 = .ok (.invokevirtual 218, 3) := by decide +kernel
theorem dX12_readLine_31 : decode cX12_readLine 31 = .ok (.ifCond .eq 8, 3) := by decide +kernel
theorem dX12_readLine_34 : decode cX12_readLine 34 = .ok (.aload_n 0, 1) := by decide +kernel
theorem dX12_readLine_35 : decode cX12_readLine 35 = .ok (.invokevirtual 227, 3) := by decide +kernel
theorem dX12_readLine_38 : decode cX12_readLine 38 = .ok (.ireturn, 1) := by decide +kernel
theorem dX12_readLine_39 : decode cX12_readLine 39 = .ok (.aload_n 0, 1) := by decide +kernel
theorem dX12_readLine_40 : decode cX12_readLine 40 = .ok (.iconst 3, 1) := by decide +kernel
theorem dX12_readLine_41 : decode cX12_readLine 41 = .ok (.invokevirtual 218, 3) := by decide +kernel
theorem dX12_readLine_44 : decode cX12_readLine 44 = .ok (.ifCond .eq 8, 3) := by decide +kernel
theorem dX12_readLine_47 : decode cX12_readLine 47 = .ok (.aload_n 0, 1) := by decide +kernel
theorem dX12_readLine_48 : decode cX12_readLine 48 = .ok (.invokevirtual 230, 3) := by decide +kernel
theorem dX12_readLine_51 : decode cX12_readLine 51 = .ok (.ireturn, 1) := by decide +kernel
theorem dX12_readLine_52 : decode cX12_readLine 52 = .ok (.aload_n 0, 1) := by decide +kernel
theorem dX12_readLine_53 : decode cX12_readLine 53 = .ok (.iconst 4, 1) := by decide +kernel
theorem dX12_readLine_54 : decode cX12_readLine 54 = .ok (.invokevirtual 218, 3) := by decide +kernel
theorem dX12_readLine_57 : decode cX12_readLine 57 = .ok (.ifCond .eq 10, 3) := by decide +kernel
theorem dX12_readLine_60 : decode cX12_readLine 60 = .ok (.aload_n 0, 1) := by decide +kernel
theorem dX12_readLine_61 : decode cX12_readLine 61 = .ok (.invokevirtual 233, 3) := by decide +kernel
theorem dX12_readLine_64 : decode cX12_readLine 64 = .ok (.goto 8, 3) := by decide +kernel
theorem dX12_readLine_67 : decode cX12_readLine 67 = .ok (.aload_n 0, 1) := by decide +kernel
theorem dX12_readLine_68 : decode cX12_readLine 68 = .ok (.iconst 1, 1) := by decide +kernel
theorem dX12_readLine_69 : decode cX12_readLine 69 = .ok (.invokevirtual 72, 3) := by decide +kernel
theorem dX12_readLine_72 : decode cX12_readLine 72 = .ok (.ireturn, 1) := by decide +kernel
theorem dX12_house_0 : decode cX12_house 0 = .ok (.aload_n 0, 1) := by decide +kernel
theorem dX12_house_1 : decode cX12_house 1 = .ok (.sipush 900, 3) := by decide +kernel
theorem dX12_house_4 : decode cX12_house 4 = .ok (.invokevirtual 236, 3) := by decide +kernel
theorem dX12_house_7 : decode cX12_house 7 = .ok (.aload_n 0, 1) := by decide +kernel
theorem dX12_house_8 : decode cX12_house 8 = .ok (.getfield 101, 3) := by decide +kernel
theorem dX12_house_11 : decode cX12_house 11 = .ok (.invokestatic 175, 3) := by decide +kernel
theorem dX12_house_14 : decode cX12_house 14 = .ok (.aload_n 0, 1) := by decide +kernel
theorem dX12_house_15 : decode cX12_house 15 = .ok (.iconst 0, 1) := by decide +kernel
theorem dX12_house_16 : decode cX12_house 16 = .ok (.putfield 209, 3) := by decide +kernel
theorem dX12_house_19 : decode cX12_house 19 = .ok (.aload_n 0, 1) := by decide +kernel
theorem dX12_house_20 : decode cX12_house 20 = .ok (.iconst 0, 1) := by decide +kernel
theorem dX12_house_21 : decode cX12_house 21 = .ok (.putfield 212, 3) := by decide +kernel
theorem dX12_house_24 : decode cX12_house 24 = .ok (.aload_n 0, 1) := by decide +kernel
theorem dX12_house_25 : decode cX12_house 25 = .ok (.iconst 0, 1) := by decide +kernel
theorem dX12_house_26 : decode cX12_house 26 = .ok (.putfield 215, 3) := by decide +kernel
theorem dX12_house_29 : decode cX12_house 29 = .ok (.aload_n 0, 1) := by decide +kernel
theorem dX12_house_30 : decode cX12_house 30 = .ok (.iconst 0, 1) := by decide +kernel
theorem dX12_house_31 : decode cX12_house 31 = .ok (.putfield 198, 3) := by decide +kernel
theorem dX12_house_34 : decode cX12_house 34 = .ok (.iconst 0, 1) := by decide +kernel
theorem dX12_house_35 : decode cX12_house 35 = .ok (.istore_n 1, 1) := by decide +kernel
theorem dX12_house_36 : decode cX12_house 36 = .ok (.aload_n 0, 1) := by decide +kernel
theorem dX12_house_37 : decode cX12_house 37 = .ok (.getfield 30, 3) := by decide +kernel
theorem dX12_house_40 : decode cX12_house 40 = .ok (.ifCond .eq 30, 3) := by decide +kernel
theorem dX12_house_43 : decode cX12_house 43 = .ok (.aload_n 0, 1) := by decide +kernel
theorem dX12_house_44 : decode cX12_house 44 = .ok (.invokevirtual 239, 3) := by decide +kernel
theorem dX12_house_47 : decode cX12_house 47 = .ok (.ifCond .eq 10, 3) := by decide +kernel
theorem dX12_house_50 : decode cX12_house 50 = .ok (.aload_n 0, 1) := by decide +kernel
theorem dX12_house_51 : decode cX12_house 51 = .ok (.invokevirtual 242, 3) := by decide +kernel
theorem dX12_house_54 : decode cX12_house 54 = .ok (.ifCond .ne 10, 3) := by decide +kernel
theorem dX12_house_57 : decode cX12_house 57 = .ok (.iconst (-1), 1) := by decide +kernel
theorem dX12_house_58 : decode cX12_house 58 = .ok (.aload_n 0, 1) := by decide +kernel
theorem dX12_house_59 : decode cX12_house 59 = .ok (.getfield 69, 3) := by decide +kernel
theorem dX12_house_62 : decode cX12_house 62 = .ok (.isub, 1) := by decide +kernel
theorem dX12_house_63 : decode cX12_house 63 = .ok (.ireturn, 1) := by decide +kernel
theorem dX12_house_64 : decode cX12_house 64 = .ok (.iinc 1 1, 3) := by decide +kernel
theorem dX12_house_67 : decode cX12_house 67 = .ok (.goto (-31), 3) := by decide +kernel
theorem dX12_house_70 : decode cX12_house 70 = .ok (.iconst 0, 1) := by decide +kernel
theorem dX12_house_71 : decode cX12_house 71 = .ok (.istore_n 2, 1) := by decide +kernel
theorem dX12_house_72 : decode cX12_house 72 = .ok (.iload_n 2, 1) := by decide +kernel
theorem dX12_house_73 : decode cX12_house 73 = .ok (.sipush 815, 3) := by decide +kernel
theorem dX12_house_76 : decode cX12_house 76 = .ok (.if_icmp .ge 21, 3) := by decide +kernel
theorem dX12_house_79 : decode cX12_house 79 = .ok (.aload_n 0, 1) := by decide +kernel
theorem dX12_house_80 : decode cX12_house 80 = .ok (.getfield 98, 3) := by decide +kernel
theorem dX12_house_83 : decode cX12_house 83 = .ok (.iload_n 2, 1) := by decide +kernel
theorem dX12_house_84 : decode cX12_house 84 = .ok (.aload_n 0, 1) := by decide +kernel
theorem dX12_house_85 : decode cX12_house 85 = .ok (.getfield 101, 3) := by decide +kernel
theorem dX12_house_88 : decode cX12_house 88 = .ok (.iload_n 2, 1) := by decide +kernel
theorem dX12_house_89 : decode cX12_house 89 = .ok (.iaload, 1) := by decide +kernel
theorem dX12_house_90 : decode cX12_house 90 = .ok (.iastore, 1) := by decide +kernel
theorem dX12_house_91 : decode cX12_house 91 = .ok (.iinc 2 1, 3) := by decide +kernel
theorem dX12_house_94 : decode cX12_house 94 = .ok (.goto (-22), 3) := by decide +kernel
theorem dX12_house_97 : decode cX12_house 97 = .ok (.iconst 0, 1) := by decide +kernel
theorem dX12_house_98 : decode cX12_house 98 = .ok (.istore_n 2, 1) := by decide +kernel
theorem dX12_house_99 : decode cX12_house 99 = .ok (.iload_n 2, 1) := by decide +kernel
theorem dX12_house_100 : decode cX12_house 100 = .ok (.iconst 5, 1) := by decide +kernel
theorem dX12_house_101 : decode cX12_house 101 = .ok (.if_icmp .ge 21, 3) := by decide +kernel
theorem dX12_house_104 : decode cX12_house 104 = .ok (.aload_n 0, 1) := by decide +kernel
theorem dX12_house_105 : decode cX12_house 105 = .ok (.getfield 113, 3) := by decide +kernel
theorem dX12_house_108 : decode cX12_house 108 = .ok (.iload_n 2, 1) := by decide +kernel
theorem dX12_house_109 : decode cX12_house 109 = .ok (.aload_n 0, 1) := by decide +kernel
theorem dX12_house_110 : decode cX12_house 110 = .ok (.getfield 117, 3) := by decide +kernel
theorem dX12_house_113 : decode cX12_house 113 = .ok (.iload_n 2, 1) := by decide +kernel
theorem dX12_house_114 : decode cX12_house 114 = .ok (.laload, 1) := by decide +kernel
theorem dX12_house_115 : decode cX12_house 115 = .ok (.lastore, 1) := by decide +kernel
theorem dX12_house_116 : decode cX12_house 116 = .ok (.iinc 2 1, 3) := by decide +kernel
theorem dX12_house_119 : decode cX12_house 119 = .ok (.goto (-20), 3) := by decide +kernel
theorem dX12_house_122 : decode cX12_house 122 = .ok (.aload_n 0, 1) := by decide +kernel
theorem dX12_house_123 : decode cX12_house 123 = .ok (.invokevirtual 179, 3) := by decide +kernel
theorem dX12_house_126 : decode cX12_house 126 = .ok (.aload_n 0, 1) := by decide +kernel
theorem dX12_house_127 : decode cX12_house 127 = .ok (.iconst 0, 1) := by decide +kernel
theorem dX12_house_128 : decode cX12_house 128 = .ok (.putfield 245, 3) := by decide +kernel
theorem dX12_house_131 : decode cX12_house 131 = .ok (.iload_n 1, 1) := by decide +kernel
theorem dX12_house_132 : decode cX12_house 132 = .ok (.ireturn, 1) := by decide +kernel
theorem dX12_fault_0 : decode cX12_fault 0 = .ok (.aload_n 0, 1) := by decide +kernel
theorem dX12_fault_1 : decode cX12_fault 1 = .ok (.iconst 0, 1) := by decide +kernel
theorem dX12_fault_2 : decode cX12_fault 2 = .ok (.putfield 1, 3) := by decide +kernel
theorem dX12_fault_5 : decode cX12_fault 5 = .ok (.aload_n 0, 1) := by decide +kernel
theorem dX12_fault_6 : decode cX12_fault 6 = .ok (.getfield 66, 3) := by decide +kernel
theorem dX12_fault_9 : decode cX12_fault 9 = .ok (.ireturn, 1) := by decide +kernel
theorem dX12_isScale_0 : decode cX12_isScale 0 = .ok (.iload_n 1, 1) := by decide +kernel
theorem dX12_isScale_1 : decode cX12_isScale 1 = .ok (.iconst 0, 1) := by decide +kernel
theorem dX12_isScale_2 : decode cX12_isScale 2 = .ok (.aload_n 0, 1) := by decide +kernel
theorem dX12_isScale_3 : decode cX12_isScale 3 = .ok (.getfield 98, 3) := by decide +kernel
theorem dX12_isScale_6 : decode cX12_isScale 6 = .ok (.iconst 0, 1) := by decide +kernel
theorem dX12_isScale_7 : decode cX12_isScale 7 = .ok (.iaload, 1) := by decide +kernel
theorem dX12_isScale_8 : decode cX12_isScale 8 = .ok (.iconst 1, 1) := by decide +kernel
theorem dX12_isScale_9 : decode cX12_isScale 9 = .ok (.isub, 1) := by decide +kernel
theorem dX12_isScale_10 : decode cX12_isScale 10 = .ok (.invokestatic 75, 3) := by decide +kernel
theorem dX12_isScale_13 : decode cX12_isScale 13 = .ok (.ireturn, 1) := by decide +kernel
theorem dX12_isCask_0 : decode cX12_isCask 0 = .ok (.iload_n 1, 1) := by decide +kernel
theorem dX12_isCask_1 : decode cX12_isCask 1 = .ok (.iconst 0, 1) := by decide +kernel
theorem dX12_isCask_2 : decode cX12_isCask 2 = .ok (.aload_n 0, 1) := by decide +kernel
theorem dX12_isCask_3 : decode cX12_isCask 3 = .ok (.getfield 98, 3) := by decide +kernel
theorem dX12_isCask_6 : decode cX12_isCask 6 = .ok (.iconst 1, 1) := by decide +kernel
theorem dX12_isCask_7 : decode cX12_isCask 7 = .ok (.iaload, 1) := by decide +kernel
theorem dX12_isCask_8 : decode cX12_isCask 8 = .ok (.iconst 1, 1) := by decide +kernel
theorem dX12_isCask_9 : decode cX12_isCask 9 = .ok (.isub, 1) := by decide +kernel
theorem dX12_isCask_10 : decode cX12_isCask 10 = .ok (.invokestatic 75, 3) := by decide +kernel
theorem dX12_isCask_13 : decode cX12_isCask 13 = .ok (.ireturn, 1) := by decide +kernel
theorem dX12_isVintage_0 : decode cX12_isVintage 0 = .ok (.iload_n 1, 1) := by decide +kernel
theorem dX12_isVintage_1 : decode cX12_isVintage 1 = .ok (.iconst 0, 1) := by decide +kernel
theorem dX12_isVintage_2 : decode cX12_isVintage 2 = .ok (.bipush 39, 2) := by decide +kernel
theorem dX12_isVintage_4 : decode cX12_isVintage 4 = .ok (.invokestatic 75, 3) := by decide +kernel
theorem dX12_isVintage_7 : decode cX12_isVintage 7 = .ok (.ireturn, 1) := by decide +kernel
theorem dX12_scaleOf_0 : decode cX12_scaleOf 0 = .ok (.iconst 0, 1) := by decide +kernel
theorem dX12_scaleOf_1 : decode cX12_scaleOf 1 = .ok (.istore_n 2, 1) := by decide +kernel
theorem dX12_scaleOf_2 : decode cX12_scaleOf 2 = .ok (.aload_n 0, 1) := by decide +kernel
theorem dX12_scaleOf_3 : decode cX12_scaleOf 3 = .ok (.getfield 98, 3) := by decide +kernel
theorem dX12_scaleOf_6 : decode cX12_scaleOf 6 = .ok (.iload_n 2, 1) := by decide +kernel
theorem dX12_scaleOf_7 : decode cX12_scaleOf 7 = .ok (.iconst 1, 1) := by decide +kernel
theorem dX12_scaleOf_8 : decode cX12_scaleOf 8 = .ok (.iadd, 1) := by decide +kernel
theorem dX12_scaleOf_9 : decode cX12_scaleOf 9 = .ok (.invokestatic 202, 3) := by decide +kernel
theorem dX12_scaleOf_12 : decode cX12_scaleOf 12 = .ok (.iload_n 1, 1) := by decide +kernel
theorem dX12_scaleOf_13 : decode cX12_scaleOf 13 = .ok (.if_icmp .gt 9, 3) := by decide +kernel
theorem dX12_scaleOf_16 : decode cX12_scaleOf 16 = .ok (.iinc 2 1, 3) := by decide +kernel
theorem dX12_scaleOf_19 : decode cX12_scaleOf 19 = .ok (.goto (-17), 3) := by decide +kernel
theorem dX12_scaleOf_22 : decode cX12_scaleOf 22 = .ok (.iload_n 2, 1) := by decide +kernel
theorem dX12_scaleOf_23 : decode cX12_scaleOf 23 = .ok (.ireturn, 1) := by decide +kernel
theorem dX12_holds_0 : decode cX12_holds 0 = .ok (.aload_n 0, 1) := by decide +kernel
theorem dX12_holds_1 : decode cX12_holds 1 = .ok (.getfield 98, 3) := by decide +kernel
theorem dX12_holds_4 : decode cX12_holds 4 = .ok (.bipush 10, 2) := by decide +kernel
theorem dX12_holds_6 : decode cX12_holds 6 = .ok (.aload_n 0, 1) := by decide +kernel
theorem dX12_holds_7 : decode cX12_holds 7 = .ok (.iload_n 1, 1) := by decide +kernel
theorem dX12_holds_8 : decode cX12_holds 8 = .ok (.invokevirtual 248, 3) := by decide +kernel
theorem dX12_holds_11 : decode cX12_holds 11 = .ok (.iadd, 1) := by decide +kernel
theorem dX12_holds_12 : decode cX12_holds 12 = .ok (.iaload, 1) := by decide +kernel
theorem dX12_holds_13 : decode cX12_holds 13 = .ok (.ireturn, 1) := by decide +kernel
theorem dX12_wineAt_0 : decode cX12_wineAt 0 = .ok (.sipush 878, 3) := by decide +kernel
theorem dX12_wineAt_3 : decode cX12_wineAt 3 = .ok (.bipush 40, 2) := by decide +kernel
theorem dX12_wineAt_5 : decode cX12_wineAt 5 = .ok (.iload_n 1, 1) := by decide +kernel
theorem dX12_wineAt_6 : decode cX12_wineAt 6 = .ok (.imul, 1) := by decide +kernel
theorem dX12_wineAt_7 : decode cX12_wineAt 7 = .ok (.iadd, 1) := by decide +kernel
theorem dX12_wineAt_8 : decode cX12_wineAt 8 = .ok (.ireturn, 1) := by decide +kernel
theorem dX12_litresOf_0 : decode cX12_litresOf 0 = .ok (.aload_n 0, 1) := by decide +kernel
theorem dX12_litresOf_1 : decode cX12_litresOf 1 = .ok (.getfield 98, 3) := by decide +kernel
theorem dX12_litresOf_4 : decode cX12_litresOf 4 = .ok (.aload_n 0, 1) := by decide +kernel
theorem dX12_litresOf_5 : decode cX12_litresOf 5 = .ok (.iload_n 1, 1) := by decide +kernel
theorem dX12_litresOf_6 : decode cX12_litresOf 6 = .ok (.invokevirtual 251, 3) := by decide +kernel
theorem dX12_litresOf_9 : decode cX12_litresOf 9 = .ok (.invokestatic 206, 3) := by decide +kernel
theorem dX12_litresOf_12 : decode cX12_litresOf 12 = .ok (.ireturn, 1) := by decide +kernel
theorem dX12_lacks_0 : decode cX12_lacks 0 = .ok (.aload_n 0, 1) := by decide +kernel
theorem dX12_lacks_1 : decode cX12_lacks 1 = .ok (.iload_n 1, 1) := by decide +kernel
theorem dX12_lacks_2 : decode cX12_lacks 2 = .ok (.invokevirtual 254, 3) := by decide +kernel
theorem dX12_lacks_5 : decode cX12_lacks 5 = .ok (.aload_n 0, 1) := by decide +kernel
theorem dX12_lacks_6 : decode cX12_lacks 6 = .ok (.iload_n 1, 1) := by decide +kernel
theorem dX12_lacks_7 : decode cX12_lacks 7 = .ok (.invokevirtual 257, 3) := by decide +kernel
theorem dX12_lacks_10 : decode cX12_lacks 10 = .ok (.isub, 1) := by decide +kernel
theorem dX12_lacks_11 : decode cX12_lacks 11 = .ok (.ireturn, 1) := by decide +kernel
theorem dX12_agesOf_0 : decode cX12_agesOf 0 = .ok (.iconst 0, 1) := by decide +kernel
theorem dX12_agesOf_1 : decode cX12_agesOf 1 = .ok (.istore_n 2, 1) := by decide +kernel
theorem dX12_agesOf_2 : decode cX12_agesOf 2 = .ok (.iconst 0, 1) := by decide +kernel
theorem dX12_agesOf_3 : decode cX12_agesOf 3 = .ok (.istore_n 3, 1) := by decide +kernel
theorem dX12_agesOf_4 : decode cX12_agesOf 4 = .ok (.iload_n 3, 1) := by decide +kernel
theorem dX12_agesOf_5 : decode cX12_agesOf 5 = .ok (.bipush 40, 2) := by decide +kernel
theorem dX12_agesOf_7 : decode cX12_agesOf 7 = .ok (.if_icmp .ge 35, 3) := by decide +kernel
theorem dX12_agesOf_10 : decode cX12_agesOf 10 = .ok (.iload_n 2, 1) := by decide +kernel
theorem dX12_agesOf_11 : decode cX12_agesOf 11 = .ok (.aload_n 0, 1) := by decide +kernel
theorem dX12_agesOf_12 : decode cX12_agesOf 12 = .ok (.getfield 98, 3) := by decide +kernel
theorem dX12_agesOf_15 : decode cX12_agesOf 15 = .ok (.aload_n 0, 1) := by decide +kernel
theorem dX12_agesOf_16 : decode cX12_agesOf 16 = .ok (.iload_n 1, 1) := by decide +kernel
theorem dX12_agesOf_17 : decode cX12_agesOf 17 = .ok (.invokevirtual 251, 3) := by decide +kernel
theorem dX12_agesOf_20 : decode cX12_agesOf 20 = .ok (.iload_n 3, 1) := by decide +kernel
theorem dX12_agesOf_21 : decode cX12_agesOf 21 = .ok (.iadd, 1) := by decide +kernel
theorem dX12_agesOf_22 : decode cX12_agesOf 22 = .ok (.iaload, 1) := by decide +kernel
theorem dX12_agesOf_23 : decode cX12_agesOf 23 = .ok (.aload_n 0, 1) := by decide +kernel
theorem dX12_agesOf_24 : decode cX12_agesOf 24 = .ok (.getfield 98, 3) := by decide +kernel
theorem dX12_agesOf_27 : decode cX12_agesOf 27 = .ok (.sipush 815, 3) := by decide +kernel
theorem dX12_agesOf_30 : decode cX12_agesOf 30 = .ok (.iaload, 1) := by decide +kernel
theorem dX12_agesOf_31 : decode cX12_agesOf 31 = .ok (.iload_n 3, 1) := by decide +kernel
theorem dX12_agesOf_32 : decode cX12_agesOf 32 = .ok (.isub, 1) := by decide +kernel
theorem dX12_agesOf_33 : decode cX12_agesOf 33 = .ok (.imul, 1) := by decide +kernel
theorem dX12_agesOf_34 : decode cX12_agesOf 34 = .ok (.iadd, 1) := by decide +kernel
theorem dX12_agesOf_35 : decode cX12_agesOf 35 = .ok (.istore_n 2, 1) := by decide +kernel
theorem dX12_agesOf_36 : decode cX12_agesOf 36 = .ok (.iinc 3 1, 3) := by decide +kernel
theorem dX12_agesOf_39 : decode cX12_agesOf 39 = .ok (.goto (-35), 3) := by decide +kernel
theorem dX12_agesOf_42 : decode cX12_agesOf 42 = .ok (.iload_n 2, 1) := by decide +kernel
theorem dX12_agesOf_43 : decode cX12_agesOf 43 = .ok (.ireturn, 1) := by decide +kernel
theorem dX12_litresAll_0 : decode cX12_litresAll 0 = .ok (.iconst 0, 1) := by decide +kernel
theorem dX12_litresAll_1 : decode cX12_litresAll 1 = .ok (.istore_n 1, 1) := by decide +kernel
theorem dX12_litresAll_2 : decode cX12_litresAll 2 = .ok (.iconst 0, 1) := by decide +kernel
theorem dX12_litresAll_3 : decode cX12_litresAll 3 = .ok (.istore_n 2, 1) := by decide +kernel
theorem dX12_litresAll_4 : decode cX12_litresAll 4 = .ok (.iload_n 2, 1) := by decide +kernel
theorem dX12_litresAll_5 : decode cX12_litresAll 5 = .ok (.aload_n 0, 1) := by decide +kernel
theorem dX12_litresAll_6 : decode cX12_litresAll 6 = .ok (.getfield 98, 3) := by decide +kernel
theorem dX12_litresAll_9 : decode cX12_litresAll 9 = .ok (.iconst 1, 1) := by decide +kernel
theorem dX12_litresAll_10 : decode cX12_litresAll 10 = .ok (.iaload, 1) := by decide +kernel
theorem dX12_litresAll_11 : decode cX12_litresAll 11 = .ok (.if_icmp .ge 17, 3) := by decide +kernel
theorem dX12_litresAll_14 : decode cX12_litresAll 14 = .ok (.iload_n 1, 1) := by decide +kernel
theorem dX12_litresAll_15 : decode cX12_litresAll 15 = .ok (.aload_n 0, 1) := by decide +kernel
theorem dX12_litresAll_16 : decode cX12_litresAll 16 = .ok (.iload_n 2, 1) := by decide +kernel
theorem dX12_litresAll_17 : decode cX12_litresAll 17 = .ok (.invokevirtual 257, 3) := by decide +kernel
theorem dX12_litresAll_20 : decode cX12_litresAll 20 = .ok (.iadd, 1) := by decide +kernel
theorem dX12_litresAll_21 : decode cX12_litresAll 21 = .ok (.istore_n 1, 1) := by decide +kernel
theorem dX12_litresAll_22 : decode cX12_litresAll 22 = .ok (.iinc 2 1, 3) := by decide +kernel
theorem dX12_litresAll_25 : decode cX12_litresAll 25 = .ok (.goto (-21), 3) := by decide +kernel
theorem dX12_litresAll_28 : decode cX12_litresAll 28 = .ok (.iload_n 1, 1) := by decide +kernel
theorem dX12_litresAll_29 : decode cX12_litresAll 29 = .ok (.ireturn, 1) := by decide +kernel
theorem dX12_sumOf_0 : decode cX12_sumOf 0 = .ok (.iconst 0, 1) := by decide +kernel
theorem dX12_sumOf_1 : decode cX12_sumOf 1 = .ok (.istore_n 3, 1) := by decide +kernel
theorem dX12_sumOf_2 : decode cX12_sumOf 2 = .ok (.aload_n 0, 1) := by decide +kernel
theorem dX12_sumOf_3 : decode cX12_sumOf 3 = .ok (.getfield 98, 3) := by decide +kernel
theorem dX12_sumOf_6 : decode cX12_sumOf 6 = .ok (.iload_n 1, 1) := by decide +kernel
theorem dX12_sumOf_7 : decode cX12_sumOf 7 = .ok (.invokestatic 202, 3) := by decide +kernel
theorem dX12_sumOf_10 : decode cX12_sumOf 10 = .ok (.istore 4, 2) := by decide +kernel
theorem dX12_sumOf_12 : decode cX12_sumOf 12 = .ok (.iload 4, 2) := by decide +kernel
theorem dX12_sumOf_14 : decode cX12_sumOf 14 = .ok (.aload_n 0, 1) := by decide +kernel
theorem dX12_sumOf_15 : decode cX12_sumOf 15 = .ok (.getfield 98, 3) := by decide +kernel
theorem dX12_sumOf_18 : decode cX12_sumOf 18 = .ok (.iload_n 1, 1) := by decide +kernel
theorem dX12_sumOf_19 : decode cX12_sumOf 19 = .ok (.iconst 1, 1) := by decide +kernel
theorem dX12_sumOf_20 : decode cX12_sumOf 20 = .ok (.iadd, 1) := by decide +kernel
theorem dX12_sumOf_21 : decode cX12_sumOf 21 = .ok (.invokestatic 202, 3) := by decide +kernel
theorem dX12_sumOf_24 : decode cX12_sumOf 24 = .ok (.if_icmp .ge 45, 3) := by decide +kernel
theorem dX12_sumOf_27 : decode cX12_sumOf 27 = .ok (.iload_n 3, 1) := by decide +kernel
theorem dX12_sumOf_28 : decode cX12_sumOf 28 = .ok (.iload_n 2, 1) := by decide +kernel
theorem dX12_sumOf_29 : decode cX12_sumOf 29 = .ok (.ifCond .ne 12, 3) := by decide +kernel
theorem dX12_sumOf_32 : decode cX12_sumOf 32 = .ok (.aload_n 0, 1) := by decide +kernel
theorem dX12_sumOf_33 : decode cX12_sumOf 33 = .ok (.iload 4, 2) := by decide +kernel
theorem dX12_sumOf_35 : decode cX12_sumOf 35 = .ok (.invokevirtual 257, 3) := by decide +kernel
theorem dX12_sumOf_38 : decode cX12_sumOf 38 = .ok (.goto 23, 3) := by decide +kernel
theorem dX12_sumOf_41 : decode cX12_sumOf 41 = .ok (.iload_n 2, 1) := by decide +kernel
theorem dX12_sumOf_42 : decode cX12_sumOf 42 = .ok (.iconst 1, 1) := by decide +kernel
theorem dX12_sumOf_43 : decode cX12_sumOf 43 = .ok (.if_icmp .ne 12, 3) := by decide +kernel
theorem dX12_sumOf_46 : decode cX12_sumOf 46 = .ok (.aload_n 0, 1) := by decide +kernel
theorem dX12_sumOf_47 : decode cX12_sumOf 47 = .ok (.iload 4, 2) := by decide +kernel
theorem dX12_sumOf_49 : decode cX12_sumOf 49 = .ok (.invokevirtual 260, 3) := by decide +kernel
theorem dX12_sumOf_52 : decode cX12_sumOf 52 = .ok (.goto 9, 3) := by decide +kernel
theorem dX12_sumOf_55 : decode cX12_sumOf 55 = .ok (.aload_n 0, 1) := by decide +kernel
theorem dX12_sumOf_56 : decode cX12_sumOf 56 = .ok (.iload 4, 2) := by decide +kernel
theorem dX12_sumOf_58 : decode cX12_sumOf 58 = .ok (.invokevirtual 263, 3) := by decide +kernel
theorem dX12_sumOf_61 : decode cX12_sumOf 61 = .ok (.iadd, 1) := by decide +kernel
theorem dX12_sumOf_62 : decode cX12_sumOf 62 = .ok (.istore_n 3, 1) := by decide +kernel
theorem dX12_sumOf_63 : decode cX12_sumOf 63 = .ok (.iinc 4 1, 3) := by decide +kernel
theorem dX12_sumOf_66 : decode cX12_sumOf 66 = .ok (.goto (-54), 3) := by decide +kernel
theorem dX12_sumOf_69 : decode cX12_sumOf 69 = .ok (.iload_n 3, 1) := by decide +kernel
theorem dX12_sumOf_70 : decode cX12_sumOf 70 = .ok (.ireturn, 1) := by decide +kernel
theorem dX12_vintageOf_0 : decode cX12_vintageOf 0 = .ok (.iconst (-1), 1) := by decide +kernel
theorem dX12_vintageOf_1 : decode cX12_vintageOf 1 = .ok (.istore_n 3, 1) := by decide +kernel
theorem dX12_vintageOf_2 : decode cX12_vintageOf 2 = .ok (.iconst 0, 1) := by decide +kernel
theorem dX12_vintageOf_3 : decode cX12_vintageOf 3 = .ok (.istore 4, 2) := by decide +kernel
theorem dX12_vintageOf_5 : decode cX12_vintageOf 5 = .ok (.iload 4, 2) := by decide +kernel
theorem dX12_vintageOf_7 : decode cX12_vintageOf 7 = .ok (.bipush 40, 2) := by decide +kernel
theorem dX12_vintageOf_9 : decode cX12_vintageOf 9 = .ok (.if_icmp .ge 37, 3) := by decide +kernel
theorem dX12_vintageOf_12 : decode cX12_vintageOf 12 = .ok (.aload_n 0, 1) := by decide +kernel
theorem dX12_vintageOf_13 : decode cX12_vintageOf 13 = .ok (.getfield 98, 3) := by decide +kernel
theorem dX12_vintageOf_16 : decode cX12_vintageOf 16 = .ok (.aload_n 0, 1) := by decide +kernel
theorem dX12_vintageOf_17 : decode cX12_vintageOf 17 = .ok (.iload_n 1, 1) := by decide +kernel
theorem dX12_vintageOf_18 : decode cX12_vintageOf 18 = .ok (.invokevirtual 251, 3) := by decide +kernel
theorem dX12_vintageOf_21 : decode cX12_vintageOf 21 = .ok (.iload 4, 2) := by decide +kernel
theorem dX12_vintageOf_23 : decode cX12_vintageOf 23 = .ok (.iadd, 1) := by decide +kernel
theorem dX12_vintageOf_24 : decode cX12_vintageOf 24 = .ok (.iaload, 1) := by decide +kernel
theorem dX12_vintageOf_25 : decode cX12_vintageOf 25 = .ok (.ifCond .le 15, 3) := by decide +kernel
theorem dX12_vintageOf_28 : decode cX12_vintageOf 28 = .ok (.iload_n 3, 1) := by decide +kernel
theorem dX12_vintageOf_29 : decode cX12_vintageOf 29 = .ok (.iconst (-1), 1) := by decide +kernel
theorem dX12_vintageOf_30 : decode cX12_vintageOf 30 = .ok (.if_icmp .eq 7, 3) := by decide +kernel
theorem dX12_vintageOf_33 : decode cX12_vintageOf 33 = .ok (.iload_n 2, 1) := by decide +kernel
theorem dX12_vintageOf_34 : decode cX12_vintageOf 34 = .ok (.ifCond .ne 6, 3) := by decide +kernel
theorem dX12_vintageOf_37 : decode cX12_vintageOf 37 = .ok (.iload 4, 2) := by decide +kernel
theorem dX12_vintageOf_39 : decode cX12_vintageOf 39 = .ok (.istore_n 3, 1) := by decide +kernel
theorem dX12_vintageOf_40 : decode cX12_vintageOf 40 = .ok (.iinc 4 1, 3) := by decide +kernel
theorem dX12_vintageOf_43 : decode cX12_vintageOf 43 = .ok (.goto (-38), 3) := by decide +kernel
theorem dX12_vintageOf_46 : decode cX12_vintageOf 46 = .ok (.iload_n 3, 1) := by decide +kernel
theorem dX12_vintageOf_47 : decode cX12_vintageOf 47 = .ok (.ireturn, 1) := by decide +kernel
theorem dX12_cask_0 : decode cX12_cask 0 = .ok (.aload_n 0, 1) := by decide +kernel
theorem dX12_cask_1 : decode cX12_cask 1 = .ok (.iconst 0, 1) := by decide +kernel
theorem dX12_cask_2 : decode cX12_cask 2 = .ok (.putfield 1, 3) := by decide +kernel
theorem dX12_cask_5 : decode cX12_cask 5 = .ok (.aload_n 0, 1) := by decide +kernel
theorem dX12_cask_6 : decode cX12_cask 6 = .ok (.iload_n 1, 1) := by decide +kernel
theorem dX12_cask_7 : decode cX12_cask 7 = .ok (.invokevirtual 266, 3) := by decide +kernel
theorem dX12_cask_10 : decode cX12_cask 10 = .ok (.ifCond .ne 5, 3) := by decide +kernel
theorem dX12_cask_13 : decode cX12_cask 13 = .ok (.iconst (-1), 1) := by decide +kernel
theorem dX12_cask_14 : decode cX12_cask 14 = .ok (.ireturn, 1) := by decide +kernel
theorem dX12_cask_15 : decode cX12_cask 15 = .ok (.iload_n 2, 1) := by decide +kernel
theorem dX12_cask_16 : decode cX12_cask 16 = .ok (.tableswitch 102 0 6 #[44, 50, 65, 71, 77, 88, 95], 44) := by decide +kernel
theorem dX12_cask_60 : decode cX12_cask 60 = .ok (.aload_n 0, 1) := by decide +kernel
theorem dX12_cask_61 : decode cX12_cask 61 = .ok (.iload_n 1, 1) := by decide +kernel
theorem dX12_cask_62 : decode cX12_cask 62 = .ok (.invokevirtual 248, 3) := by decide +kernel
theorem dX12_cask_65 : decode cX12_cask 65 = .ok (.ireturn, 1) := by decide +kernel
theorem dX12_cask_66 : decode cX12_cask 66 = .ok (.iload_n 1, 1) := by decide +kernel
theorem dX12_cask_67 : decode cX12_cask 67 = .ok (.aload_n 0, 1) := by decide +kernel
theorem dX12_cask_68 : decode cX12_cask 68 = .ok (.getfield 98, 3) := by decide +kernel
theorem dX12_cask_71 : decode cX12_cask 71 = .ok (.aload_n 0, 1) := by decide +kernel
theorem dX12_cask_72 : decode cX12_cask 72 = .ok (.iload_n 1, 1) := by decide +kernel
theorem dX12_cask_73 : decode cX12_cask 73 = .ok (.invokevirtual 248, 3) := by decide +kernel
theorem dX12_cask_76 : decode cX12_cask 76 = .ok (.invokestatic 202, 3) := by decide +kernel
theorem dX12_cask_79 : decode cX12_cask 79 = .ok (.isub, 1) := by decide +kernel
theorem dX12_cask_80 : decode cX12_cask 80 = .ok (.ireturn, 1) := by decide +kernel
theorem dX12_cask_81 : decode cX12_cask 81 = .ok (.aload_n 0, 1) := by decide +kernel
theorem dX12_cask_82 : decode cX12_cask 82 = .ok (.iload_n 1, 1) := by decide +kernel
theorem dX12_cask_83 : decode cX12_cask 83 = .ok (.invokevirtual 257, 3) := by decide +kernel
theorem dX12_cask_86 : decode cX12_cask 86 = .ok (.ireturn, 1) := by decide +kernel
theorem dX12_cask_87 : decode cX12_cask 87 = .ok (.aload_n 0, 1) := by decide +kernel
theorem dX12_cask_88 : decode cX12_cask 88 = .ok (.iload_n 1, 1) := by decide +kernel
theorem dX12_cask_89 : decode cX12_cask 89 = .ok (.invokevirtual 260, 3) := by decide +kernel
theorem dX12_cask_92 : decode cX12_cask 92 = .ok (.ireturn, 1) := by decide +kernel
theorem dX12_cask_93 : decode cX12_cask 93 = .ok (.aload_n 0, 1) := by decide +kernel
theorem dX12_cask_94 : decode cX12_cask 94 = .ok (.getfield 98, 3) := by decide +kernel
theorem dX12_cask_97 : decode cX12_cask 97 = .ok (.sipush 858, 3) := by decide +kernel
theorem dX12_cask_100 : decode cX12_cask 100 = .ok (.iload_n 1, 1) := by decide +kernel
theorem dX12_cask_101 : decode cX12_cask 101 = .ok (.iadd, 1) := by decide +kernel
theorem dX12_cask_102 : decode cX12_cask 102 = .ok (.iaload, 1) := by decide +kernel
theorem dX12_cask_103 : decode cX12_cask 103 = .ok (.ireturn, 1) := by decide +kernel
theorem dX12_cask_104 : decode cX12_cask 104 = .ok (.aload_n 0, 1) := by decide +kernel
theorem dX12_cask_105 : decode cX12_cask 105 = .ok (.iload_n 1, 1) := by decide +kernel
theorem dX12_cask_106 : decode cX12_cask 106 = .ok (.iconst 1, 1) := by decide +kernel
theorem dX12_cask_107 : decode cX12_cask 107 = .ok (.invokevirtual 269, 3) := by decide +kernel
theorem dX12_cask_110 : decode cX12_cask 110 = .ok (.ireturn, 1) := by decide +kernel
theorem dX12_cask_111 : decode cX12_cask 111 = .ok (.aload_n 0, 1) := by decide +kernel
theorem dX12_cask_112 : decode cX12_cask 112 = .ok (.iload_n 1, 1) := by decide +kernel
theorem dX12_cask_113 : decode cX12_cask 113 = .ok (.iconst 0, 1) := by decide +kernel
theorem dX12_cask_114 : decode cX12_cask 114 = .ok (.invokevirtual 269, 3) := by decide +kernel
theorem dX12_cask_117 : decode cX12_cask 117 = .ok (.ireturn, 1) := by decide +kernel
theorem dX12_cask_118 : decode cX12_cask 118 = .ok (.iconst (-1), 1) := by decide +kernel
theorem dX12_cask_119 : decode cX12_cask 119 = .ok (.ireturn, 1) := by decide +kernel
theorem dX12_scale_0 : decode cX12_scale 0 = .ok (.aload_n 0, 1) := by decide +kernel
theorem dX12_scale_1 : decode cX12_scale 1 = .ok (.iconst 0, 1) := by decide +kernel
theorem dX12_scale_2 : decode cX12_scale 2 = .ok (.putfield 1, 3) := by decide +kernel
theorem dX12_scale_5 : decode cX12_scale 5 = .ok (.aload_n 0, 1) := by decide +kernel
theorem dX12_scale_6 : decode cX12_scale 6 = .ok (.iload_n 1, 1) := by decide +kernel
theorem dX12_scale_7 : decode cX12_scale 7 = .ok (.invokevirtual 273, 3) := by decide +kernel
theorem dX12_scale_10 : decode cX12_scale 10 = .ok (.ifCond .ne 5, 3) := by decide +kernel
theorem dX12_scale_13 : decode cX12_scale 13 = .ok (.iconst (-1), 1) := by decide +kernel
theorem dX12_scale_14 : decode cX12_scale 14 = .ok (.ireturn, 1) := by decide +kernel
theorem dX12_scale_15 : decode cX12_scale 15 = .ok (.iload_n 2, 1) := by decide +kernel
theorem dX12_scale_16 : decode cX12_scale 16 = .ok (.tableswitch 65 0 3 #[32, 41, 51, 58], 32) := by decide +kernel
theorem dX12_scale_48 : decode cX12_scale 48 = .ok (.aload_n 0, 1) := by decide +kernel
theorem dX12_scale_49 : decode cX12_scale 49 = .ok (.getfield 98, 3) := by decide +kernel
theorem dX12_scale_52 : decode cX12_scale 52 = .ok (.iconst 5, 1) := by decide +kernel
theorem dX12_scale_53 : decode cX12_scale 53 = .ok (.iload_n 1, 1) := by decide +kernel
theorem dX12_scale_54 : decode cX12_scale 54 = .ok (.iadd, 1) := by decide +kernel
theorem dX12_scale_55 : decode cX12_scale 55 = .ok (.iaload, 1) := by decide +kernel
theorem dX12_scale_56 : decode cX12_scale 56 = .ok (.ireturn, 1) := by decide +kernel
theorem dX12_scale_57 : decode cX12_scale 57 = .ok (.aload_n 0, 1) := by decide +kernel
theorem dX12_scale_58 : decode cX12_scale 58 = .ok (.getfield 98, 3) := by decide +kernel
theorem dX12_scale_61 : decode cX12_scale 61 = .ok (.bipush 10, 2) := by decide +kernel
theorem dX12_scale_63 : decode cX12_scale 63 = .ok (.iload_n 1, 1) := by decide +kernel
theorem dX12_scale_64 : decode cX12_scale 64 = .ok (.iadd, 1) := by decide +kernel
theorem dX12_scale_65 : decode cX12_scale 65 = .ok (.iaload, 1) := by decide +kernel
theorem dX12_scale_66 : decode cX12_scale 66 = .ok (.ireturn, 1) := by decide +kernel
theorem dX12_scale_67 : decode cX12_scale 67 = .ok (.aload_n 0, 1) := by decide +kernel
theorem dX12_scale_68 : decode cX12_scale 68 = .ok (.iload_n 1, 1) := by decide +kernel
theorem dX12_scale_69 : decode cX12_scale 69 = .ok (.iconst 0, 1) := by decide +kernel
theorem dX12_scale_70 : decode cX12_scale 70 = .ok (.invokevirtual 276, 3) := by decide +kernel
theorem dX12_scale_73 : decode cX12_scale 73 = .ok (.ireturn, 1) := by decide +kernel
theorem dX12_scale_74 : decode cX12_scale 74 = .ok (.aload_n 0, 1) := by decide +kernel
theorem dX12_scale_75 : decode cX12_scale 75 = .ok (.iload_n 1, 1) := by decide +kernel
theorem dX12_scale_76 : decode cX12_scale 76 = .ok (.iconst 1, 1) := by decide +kernel
theorem dX12_scale_77 : decode cX12_scale 77 = .ok (.invokevirtual 276, 3) := by decide +kernel
theorem dX12_scale_80 : decode cX12_scale 80 = .ok (.ireturn, 1) := by decide +kernel
theorem dX12_scale_81 : decode cX12_scale 81 = .ok (.iconst (-1), 1) := by decide +kernel
theorem dX12_scale_82 : decode cX12_scale 82 = .ok (.ireturn, 1) := by decide +kernel
theorem dX12_litres_0 : decode cX12_litres 0 = .ok (.aload_n 0, 1) := by decide +kernel
theorem dX12_litres_1 : decode cX12_litres 1 = .ok (.iconst 0, 1) := by decide +kernel
theorem dX12_litres_2 : decode cX12_litres 2 = .ok (.putfield 1, 3) := by decide +kernel
theorem dX12_litres_5 : decode cX12_litres 5 = .ok (.aload_n 0, 1) := by decide +kernel
theorem dX12_litres_6 : decode cX12_litres 6 = .ok (.iload_n 1, 1) := by decide +kernel
theorem dX12_litres_7 : decode cX12_litres 7 = .ok (.invokevirtual 266, 3) := by decide +kernel
theorem dX12_litres_10 : decode cX12_litres 10 = .ok (.ifCond .eq 26, 3) := by decide +kernel
theorem dX12_litres_13 : decode cX12_litres 13 = .ok (.aload_n 0, 1) := by decide +kernel
theorem dX12_litres_14 : decode cX12_litres 14 = .ok (.iload_n 2, 1) := by decide +kernel
theorem dX12_litres_15 : decode cX12_litres 15 = .ok (.invokevirtual 280, 3) := by decide +kernel
theorem dX12_litres_18 : decode cX12_litres 18 = .ok (.ifCond .eq 18, 3) := by decide +kernel
theorem dX12_litres_21 : decode cX12_litres 21 = .ok (.aload_n 0, 1) := by decide +kernel
theorem dX12_litres_22 : decode cX12_litres 22 = .ok (.getfield 98, 3) := by decide +kernel
theorem dX12_litres_25 : decode cX12_litres 25 = .ok (.aload_n 0, 1) := by decide +kernel
theorem dX12_litres_26 : decode cX12_litres 26 = .ok (.iload_n 1, 1) := by decide +kernel
theorem dX12_litres_27 : decode cX12_litres 27 = .ok (.invokevirtual 251, 3) := by decide +kernel
theorem dX12_litres_30 : decode cX12_litres 30 = .ok (.iload_n 2, 1) := by decide +kernel
theorem dX12_litres_31 : decode cX12_litres 31 = .ok (.iadd, 1) := by decide +kernel
theorem dX12_litres_32 : decode cX12_litres 32 = .ok (.iaload, 1) := by decide +kernel
theorem dX12_litres_33 : decode cX12_litres 33 = .ok (.goto 7, 3) := by decide +kernel
theorem dX12_litres_36 : decode cX12_litres 36 = .ok (.aload_n 0, 1) := by decide +kernel
theorem dX12_litres_37 : decode cX12_litres 37 = .ok (.invokevirtual 283, 3) := by decide +kernel
theorem dX12_litres_40 : decode cX12_litres 40 = .ok (.ireturn, 1) := by decide +kernel
theorem dX12_partOf_0 : decode cX12_partOf 0 = .ok (.iload_n 3, 1) := by decide +kernel
theorem dX12_partOf_1 : decode cX12_partOf 1 = .ok (.ifCond .ne 7, 3) := by decide +kernel
theorem dX12_partOf_4 : decode cX12_partOf 4 = .ok (.iload_n 1, 1) := by decide +kernel
theorem dX12_partOf_5 : decode cX12_partOf 5 = .ok (.goto 4, 3) := by decide +kernel
theorem dX12_partOf_8 : decode cX12_partOf 8 = .ok (.iload_n 2, 1) := by decide +kernel
theorem dX12_partOf_9 : decode cX12_partOf 9 = .ok (.iload_n 1, 1) := by decide +kernel
theorem dX12_partOf_10 : decode cX12_partOf 10 = .ok (.iload_n 2, 1) := by decide +kernel
theorem dX12_partOf_11 : decode cX12_partOf 11 = .ok (.invokestatic 286, 3) := by decide +kernel
theorem dX12_partOf_14 : decode cX12_partOf 14 = .ok (.idiv, 1) := by decide +kernel
theorem dX12_partOf_15 : decode cX12_partOf 15 = .ok (.ireturn, 1) := by decide +kernel
theorem dX12_age_0 : decode cX12_age 0 = .ok (.aload_n 0, 1) := by decide +kernel
theorem dX12_age_1 : decode cX12_age 1 = .ok (.iconst 0, 1) := by decide +kernel
theorem dX12_age_2 : decode cX12_age 2 = .ok (.putfield 1, 3) := by decide +kernel
theorem dX12_age_5 : decode cX12_age 5 = .ok (.aload_n 0, 1) := by decide +kernel
theorem dX12_age_6 : decode cX12_age 6 = .ok (.iload_n 1, 1) := by decide +kernel
theorem dX12_age_7 : decode cX12_age 7 = .ok (.invokevirtual 266, 3) := by decide +kernel
theorem dX12_age_10 : decode cX12_age 10 = .ok (.ifCond .eq 20, 3) := by decide +kernel
theorem dX12_age_13 : decode cX12_age 13 = .ok (.aload_n 0, 1) := by decide +kernel
theorem dX12_age_14 : decode cX12_age 14 = .ok (.iload_n 1, 1) := by decide +kernel
theorem dX12_age_15 : decode cX12_age 15 = .ok (.invokevirtual 257, 3) := by decide +kernel
theorem dX12_age_18 : decode cX12_age 18 = .ok (.ifCond .eq 12, 3) := by decide +kernel
theorem dX12_age_21 : decode cX12_age 21 = .ok (.iload_n 2, 1) := by decide +kernel
theorem dX12_age_22 : decode cX12_age 22 = .ok (.iconst 0, 1) := by decide +kernel
theorem dX12_age_23 : decode cX12_age 23 = .ok (.iconst 1, 1) := by decide +kernel
theorem dX12_age_24 : decode cX12_age 24 = .ok (.invokestatic 75, 3) := by decide +kernel
theorem dX12_age_27 : decode cX12_age 27 = .ok (.ifCond .ne 8, 3) := by decide +kernel
theorem dX12_age_30 : decode cX12_age 30 = .ok (.aload_n 0, 1) := by decide +kernel
theorem dX12_age_31 : decode cX12_age 31 = .ok (.invokevirtual 283, 3) := by decide +kernel
theorem dX12_age_34 : decode cX12_age 34 = .ok (.ireturn, 1) := by decide +kernel
theorem dX12_age_35 : decode cX12_age 35 = .ok (.aload_n 0, 1) := by decide +kernel
theorem dX12_age_36 : decode cX12_age 36 = .ok (.aload_n 0, 1) := by decide +kernel
theorem dX12_age_37 : decode cX12_age 37 = .ok (.iload_n 1, 1) := by decide +kernel
theorem dX12_age_38 : decode cX12_age 38 = .ok (.invokevirtual 263, 3) := by decide +kernel
theorem dX12_age_41 : decode cX12_age 41 = .ok (.aload_n 0, 1) := by decide +kernel
theorem dX12_age_42 : decode cX12_age 42 = .ok (.iload_n 1, 1) := by decide +kernel
theorem dX12_age_43 : decode cX12_age 43 = .ok (.invokevirtual 257, 3) := by decide +kernel
theorem dX12_age_46 : decode cX12_age 46 = .ok (.iload_n 2, 1) := by decide +kernel
theorem dX12_age_47 : decode cX12_age 47 = .ok (.invokevirtual 289, 3) := by decide +kernel
theorem dX12_age_50 : decode cX12_age 50 = .ok (.ireturn, 1) := by decide +kernel
theorem dX12_old_0 : decode cX12_old 0 = .ok (.aload_n 0, 1) := by decide +kernel
theorem dX12_old_1 : decode cX12_old 1 = .ok (.iconst 0, 1) := by decide +kernel
theorem dX12_old_2 : decode cX12_old 2 = .ok (.putfield 1, 3) := by decide +kernel
theorem dX12_old_5 : decode cX12_old 5 = .ok (.aload_n 0, 1) := by decide +kernel
theorem dX12_old_6 : decode cX12_old 6 = .ok (.iload_n 1, 1) := by decide +kernel
theorem dX12_old_7 : decode cX12_old 7 = .ok (.invokevirtual 273, 3) := by decide +kernel
theorem dX12_old_10 : decode cX12_old 10 = .ok (.ifCond .eq 21, 3) := by decide +kernel
theorem dX12_old_13 : decode cX12_old 13 = .ok (.aload_n 0, 1) := by decide +kernel
theorem dX12_old_14 : decode cX12_old 14 = .ok (.iload_n 1, 1) := by decide +kernel
theorem dX12_old_15 : decode cX12_old 15 = .ok (.iconst 0, 1) := by decide +kernel
theorem dX12_old_16 : decode cX12_old 16 = .ok (.invokevirtual 276, 3) := by decide +kernel
theorem dX12_old_19 : decode cX12_old 19 = .ok (.ifCond .eq 12, 3) := by decide +kernel
theorem dX12_old_22 : decode cX12_old 22 = .ok (.iload_n 2, 1) := by decide +kernel
theorem dX12_old_23 : decode cX12_old 23 = .ok (.iconst 0, 1) := by decide +kernel
theorem dX12_old_24 : decode cX12_old 24 = .ok (.iconst 1, 1) := by decide +kernel
theorem dX12_old_25 : decode cX12_old 25 = .ok (.invokestatic 75, 3) := by decide +kernel
theorem dX12_old_28 : decode cX12_old 28 = .ok (.ifCond .ne 8, 3) := by decide +kernel
theorem dX12_old_31 : decode cX12_old 31 = .ok (.aload_n 0, 1) := by decide +kernel
theorem dX12_old_32 : decode cX12_old 32 = .ok (.invokevirtual 283, 3) := by decide +kernel
theorem dX12_old_35 : decode cX12_old 35 = .ok (.ireturn, 1) := by decide +kernel
theorem dX12_old_36 : decode cX12_old 36 = .ok (.aload_n 0, 1) := by decide +kernel
theorem dX12_old_37 : decode cX12_old 37 = .ok (.aload_n 0, 1) := by decide +kernel
theorem dX12_old_38 : decode cX12_old 38 = .ok (.iload_n 1, 1) := by decide +kernel
theorem dX12_old_39 : decode cX12_old 39 = .ok (.iconst 2, 1) := by decide +kernel
theorem dX12_old_40 : decode cX12_old 40 = .ok (.invokevirtual 276, 3) := by decide +kernel
theorem dX12_old_43 : decode cX12_old 43 = .ok (.aload_n 0, 1) := by decide +kernel
theorem dX12_old_44 : decode cX12_old 44 = .ok (.iload_n 1, 1) := by decide +kernel
theorem dX12_old_45 : decode cX12_old 45 = .ok (.iconst 0, 1) := by decide +kernel
theorem dX12_old_46 : decode cX12_old 46 = .ok (.invokevirtual 276, 3) := by decide +kernel
theorem dX12_old_49 : decode cX12_old 49 = .ok (.iload_n 2, 1) := by decide +kernel
theorem dX12_old_50 : decode cX12_old 50 = .ok (.invokevirtual 289, 3) := by decide +kernel
theorem dX12_old_53 : decode cX12_old 53 = .ok (.ireturn, 1) := by decide +kernel
theorem dX12_mean_0 : decode cX12_mean 0 = .ok (.aload_n 0, 1) := by decide +kernel
theorem dX12_mean_1 : decode cX12_mean 1 = .ok (.iconst 0, 1) := by decide +kernel
theorem dX12_mean_2 : decode cX12_mean 2 = .ok (.putfield 1, 3) := by decide +kernel
theorem dX12_mean_5 : decode cX12_mean 5 = .ok (.aload_n 0, 1) := by decide +kernel
theorem dX12_mean_6 : decode cX12_mean 6 = .ok (.iload_n 1, 1) := by decide +kernel
theorem dX12_mean_7 : decode cX12_mean 7 = .ok (.invokevirtual 273, 3) := by decide +kernel
theorem dX12_mean_10 : decode cX12_mean 10 = .ok (.ifCond .eq 12, 3) := by decide +kernel
theorem dX12_mean_13 : decode cX12_mean 13 = .ok (.iload_n 2, 1) := by decide +kernel
theorem dX12_mean_14 : decode cX12_mean 14 = .ok (.iconst 0, 1) := by decide +kernel
theorem dX12_mean_15 : decode cX12_mean 15 = .ok (.iconst 1, 1) := by decide +kernel
theorem dX12_mean_16 : decode cX12_mean 16 = .ok (.invokestatic 75, 3) := by decide +kernel
theorem dX12_mean_19 : decode cX12_mean 19 = .ok (.ifCond .ne 8, 3) := by decide +kernel
theorem dX12_mean_22 : decode cX12_mean 22 = .ok (.aload_n 0, 1) := by decide +kernel
theorem dX12_mean_23 : decode cX12_mean 23 = .ok (.invokevirtual 283, 3) := by decide +kernel
theorem dX12_mean_26 : decode cX12_mean 26 = .ok (.ireturn, 1) := by decide +kernel
theorem dX12_mean_27 : decode cX12_mean 27 = .ok (.aload_n 0, 1) := by decide +kernel
theorem dX12_mean_28 : decode cX12_mean 28 = .ok (.aload_n 0, 1) := by decide +kernel
theorem dX12_mean_29 : decode cX12_mean 29 = .ok (.iload_n 1, 1) := by decide +kernel
