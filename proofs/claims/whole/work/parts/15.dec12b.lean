theorem dX12_mean_30 : decode cX12_mean 30 = .ok (.iconst 0, 1) := by decide +kernel
theorem dX12_mean_31 : decode cX12_mean 31 = .ok (.invokevirtual 276, 3) := by decide +kernel
theorem dX12_mean_34 : decode cX12_mean 34 = .ok (.aload_n 0, 1) := by decide +kernel
theorem dX12_mean_35 : decode cX12_mean 35 = .ok (.getfield 98, 3) := by decide +kernel
theorem dX12_mean_38 : decode cX12_mean 38 = .ok (.iconst 5, 1) := by decide +kernel
theorem dX12_mean_39 : decode cX12_mean 39 = .ok (.iload_n 1, 1) := by decide +kernel
theorem dX12_mean_40 : decode cX12_mean 40 = .ok (.iadd, 1) := by decide +kernel
theorem dX12_mean_41 : decode cX12_mean 41 = .ok (.iaload, 1) := by decide +kernel
theorem dX12_mean_42 : decode cX12_mean 42 = .ok (.iload_n 2, 1) := by decide +kernel
theorem dX12_mean_43 : decode cX12_mean 43 = .ok (.invokevirtual 289, 3) := by decide +kernel
theorem dX12_mean_46 : decode cX12_mean 46 = .ok (.ireturn, 1) := by decide +kernel
theorem dX12_part_0 : decode cX12_part 0 = .ok (.aload_n 0, 1) := by decide +kernel
theorem dX12_part_1 : decode cX12_part 1 = .ok (.iconst 0, 1) := by decide +kernel
theorem dX12_part_2 : decode cX12_part 2 = .ok (.putfield 1, 3) := by decide +kernel
theorem dX12_part_5 : decode cX12_part 5 = .ok (.aload_n 0, 1) := by decide +kernel
theorem dX12_part_6 : decode cX12_part 6 = .ok (.invokevirtual 293, 3) := by decide +kernel
theorem dX12_part_9 : decode cX12_part 9 = .ok (.istore_n 3, 1) := by decide +kernel
theorem dX12_part_10 : decode cX12_part 10 = .ok (.aload_n 0, 1) := by decide +kernel
theorem dX12_part_11 : decode cX12_part 11 = .ok (.iload_n 1, 1) := by decide +kernel
theorem dX12_part_12 : decode cX12_part 12 = .ok (.invokevirtual 273, 3) := by decide +kernel
theorem dX12_part_15 : decode cX12_part 15 = .ok (.ifCond .eq 16, 3) := by decide +kernel
theorem dX12_part_18 : decode cX12_part 18 = .ok (.iload_n 3, 1) := by decide +kernel
theorem dX12_part_19 : decode cX12_part 19 = .ok (.ifCond .eq 12, 3) := by decide +kernel
theorem dX12_part_22 : decode cX12_part 22 = .ok (.iload_n 2, 1) := by decide +kernel
theorem dX12_part_23 : decode cX12_part 23 = .ok (.iconst 0, 1) := by decide +kernel
theorem dX12_part_24 : decode cX12_part 24 = .ok (.iconst 1, 1) := by decide +kernel
theorem dX12_part_25 : decode cX12_part 25 = .ok (.invokestatic 75, 3) := by decide +kernel
theorem dX12_part_28 : decode cX12_part 28 = .ok (.ifCond .ne 8, 3) := by decide +kernel
theorem dX12_part_31 : decode cX12_part 31 = .ok (.aload_n 0, 1) := by decide +kernel
theorem dX12_part_32 : decode cX12_part 32 = .ok (.invokevirtual 283, 3) := by decide +kernel
theorem dX12_part_35 : decode cX12_part 35 = .ok (.ireturn, 1) := by decide +kernel
theorem dX12_part_36 : decode cX12_part 36 = .ok (.aload_n 0, 1) := by decide +kernel
theorem dX12_part_37 : decode cX12_part 37 = .ok (.aload_n 0, 1) := by decide +kernel
theorem dX12_part_38 : decode cX12_part 38 = .ok (.iload_n 1, 1) := by decide +kernel
theorem dX12_part_39 : decode cX12_part 39 = .ok (.iconst 0, 1) := by decide +kernel
theorem dX12_part_40 : decode cX12_part 40 = .ok (.invokevirtual 276, 3) := by decide +kernel
theorem dX12_part_43 : decode cX12_part 43 = .ok (.iload_n 3, 1) := by decide +kernel
theorem dX12_part_44 : decode cX12_part 44 = .ok (.iload_n 2, 1) := by decide +kernel
theorem dX12_part_45 : decode cX12_part 45 = .ok (.invokevirtual 289, 3) := by decide +kernel
theorem dX12_part_48 : decode cX12_part 48 = .ok (.ireturn, 1) := by decide +kernel
theorem dX12_casksThat_0 : decode cX12_casksThat 0 = .ok (.iconst 0, 1) := by decide +kernel
theorem dX12_casksThat_1 : decode cX12_casksThat 1 = .ok (.istore_n 2, 1) := by decide +kernel
theorem dX12_casksThat_2 : decode cX12_casksThat 2 = .ok (.iconst 0, 1) := by decide +kernel
theorem dX12_casksThat_3 : decode cX12_casksThat 3 = .ok (.istore_n 3, 1) := by decide +kernel
theorem dX12_casksThat_4 : decode cX12_casksThat 4 = .ok (.iload_n 3, 1) := by decide +kernel
theorem dX12_casksThat_5 : decode cX12_casksThat 5 = .ok (.aload_n 0, 1) := by decide +kernel
theorem dX12_casksThat_6 : decode cX12_casksThat 6 = .ok (.getfield 98, 3) := by decide +kernel
theorem dX12_casksThat_9 : decode cX12_casksThat 9 = .ok (.iconst 1, 1) := by decide +kernel
theorem dX12_casksThat_10 : decode cX12_casksThat 10 = .ok (.iaload, 1) := by decide +kernel
theorem dX12_casksThat_11 : decode cX12_casksThat 11 = .ok (.if_icmp .ge 35, 3) := by decide +kernel
theorem dX12_casksThat_14 : decode cX12_casksThat 14 = .ok (.iload_n 1, 1) := by decide +kernel
theorem dX12_casksThat_15 : decode cX12_casksThat 15 = .ok (.ifCond .eq 11, 3) := by decide +kernel
theorem dX12_casksThat_18 : decode cX12_casksThat 18 = .ok (.aload_n 0, 1) := by decide +kernel
theorem dX12_casksThat_19 : decode cX12_casksThat 19 = .ok (.iload_n 3, 1) := by decide +kernel
theorem dX12_casksThat_20 : decode cX12_casksThat 20 = .ok (.invokevirtual 260, 3) := by decide +kernel
theorem dX12_casksThat_23 : decode cX12_casksThat 23 = .ok (.goto 8, 3) := by decide +kernel
theorem dX12_casksThat_26 : decode cX12_casksThat 26 = .ok (.aload_n 0, 1) := by decide +kernel
theorem dX12_casksThat_27 : decode cX12_casksThat 27 = .ok (.iload_n 3, 1) := by decide +kernel
theorem dX12_casksThat_28 : decode cX12_casksThat 28 = .ok (.invokevirtual 257, 3) := by decide +kernel
theorem dX12_casksThat_31 : decode cX12_casksThat 31 = .ok (.ifCond .ne 9, 3) := by decide +kernel
theorem dX12_casksThat_34 : decode cX12_casksThat 34 = .ok (.iload_n 2, 1) := by decide +kernel
theorem dX12_casksThat_35 : decode cX12_casksThat 35 = .ok (.iconst 1, 1) := by decide +kernel
theorem dX12_casksThat_36 : decode cX12_casksThat 36 = .ok (.iload_n 3, 1) := by decide +kernel
theorem dX12_casksThat_37 : decode cX12_casksThat 37 = .ok (.ishl, 1) := by decide +kernel
theorem dX12_casksThat_38 : decode cX12_casksThat 38 = .ok (.ior, 1) := by decide +kernel
theorem dX12_casksThat_39 : decode cX12_casksThat 39 = .ok (.istore_n 2, 1) := by decide +kernel
theorem dX12_casksThat_40 : decode cX12_casksThat 40 = .ok (.iinc 3 1, 3) := by decide +kernel
theorem dX12_casksThat_43 : decode cX12_casksThat 43 = .ok (.goto (-39), 3) := by decide +kernel
theorem dX12_casksThat_46 : decode cX12_casksThat 46 = .ok (.iload_n 2, 1) := by decide +kernel
theorem dX12_casksThat_47 : decode cX12_casksThat 47 = .ok (.ireturn, 1) := by decide +kernel
theorem dX12_now_0 : decode cX12_now 0 = .ok (.aload_n 0, 1) := by decide +kernel
theorem dX12_now_1 : decode cX12_now 1 = .ok (.iconst 0, 1) := by decide +kernel
theorem dX12_now_2 : decode cX12_now 2 = .ok (.putfield 1, 3) := by decide +kernel
theorem dX12_now_5 : decode cX12_now 5 = .ok (.iload_n 1, 1) := by decide +kernel
theorem dX12_now_6 : decode cX12_now 6 = .ok (.tableswitch 97 0 6 #[42, 51, 56, 62, 68, 77, 86], 42) := by decide +kernel
theorem dX12_now_48 : decode cX12_now 48 = .ok (.aload_n 0, 1) := by decide +kernel
theorem dX12_now_49 : decode cX12_now 49 = .ok (.getfield 98, 3) := by decide +kernel
theorem dX12_now_52 : decode cX12_now 52 = .ok (.sipush 815, 3) := by decide +kernel
theorem dX12_now_55 : decode cX12_now 55 = .ok (.iaload, 1) := by decide +kernel
theorem dX12_now_56 : decode cX12_now 56 = .ok (.ireturn, 1) := by decide +kernel
theorem dX12_now_57 : decode cX12_now 57 = .ok (.aload_n 0, 1) := by decide +kernel
theorem dX12_now_58 : decode cX12_now 58 = .ok (.invokevirtual 293, 3) := by decide +kernel
theorem dX12_now_61 : decode cX12_now 61 = .ok (.ireturn, 1) := by decide +kernel
theorem dX12_now_62 : decode cX12_now 62 = .ok (.aload_n 0, 1) := by decide +kernel
theorem dX12_now_63 : decode cX12_now 63 = .ok (.iconst 1, 1) := by decide +kernel
theorem dX12_now_64 : decode cX12_now 64 = .ok (.invokevirtual 296, 3) := by decide +kernel
theorem dX12_now_67 : decode cX12_now 67 = .ok (.ireturn, 1) := by decide +kernel
theorem dX12_now_68 : decode cX12_now 68 = .ok (.aload_n 0, 1) := by decide +kernel
theorem dX12_now_69 : decode cX12_now 69 = .ok (.iconst 0, 1) := by decide +kernel
theorem dX12_now_70 : decode cX12_now 70 = .ok (.invokevirtual 296, 3) := by decide +kernel
theorem dX12_now_73 : decode cX12_now 73 = .ok (.ireturn, 1) := by decide +kernel
theorem dX12_now_74 : decode cX12_now 74 = .ok (.aload_n 0, 1) := by decide +kernel
theorem dX12_now_75 : decode cX12_now 75 = .ok (.getfield 98, 3) := by decide +kernel
theorem dX12_now_78 : decode cX12_now 78 = .ok (.sipush 816, 3) := by decide +kernel
theorem dX12_now_81 : decode cX12_now 81 = .ok (.iaload, 1) := by decide +kernel
theorem dX12_now_82 : decode cX12_now 82 = .ok (.ireturn, 1) := by decide +kernel
theorem dX12_now_83 : decode cX12_now 83 = .ok (.aload_n 0, 1) := by decide +kernel
theorem dX12_now_84 : decode cX12_now 84 = .ok (.getfield 98, 3) := by decide +kernel
theorem dX12_now_87 : decode cX12_now 87 = .ok (.sipush 817, 3) := by decide +kernel
theorem dX12_now_90 : decode cX12_now 90 = .ok (.iaload, 1) := by decide +kernel
theorem dX12_now_91 : decode cX12_now 91 = .ok (.ireturn, 1) := by decide +kernel
theorem dX12_now_92 : decode cX12_now 92 = .ok (.aload_n 0, 1) := by decide +kernel
theorem dX12_now_93 : decode cX12_now 93 = .ok (.getfield 98, 3) := by decide +kernel
theorem dX12_now_96 : decode cX12_now 96 = .ok (.sipush 818, 3) := by decide +kernel
theorem dX12_now_99 : decode cX12_now 99 = .ok (.invokestatic 206, 3) := by decide +kernel
theorem dX12_now_102 : decode cX12_now 102 = .ok (.ireturn, 1) := by decide +kernel
theorem dX12_now_103 : decode cX12_now 103 = .ok (.iconst (-1), 1) := by decide +kernel
theorem dX12_now_104 : decode cX12_now 104 = .ok (.ireturn, 1) := by decide +kernel
theorem dX12_bottle_0 : decode cX12_bottle 0 = .ok (.aload_n 0, 1) := by decide +kernel
theorem dX12_bottle_1 : decode cX12_bottle 1 = .ok (.iconst 0, 1) := by decide +kernel
theorem dX12_bottle_2 : decode cX12_bottle 2 = .ok (.putfield 1, 3) := by decide +kernel
theorem dX12_bottle_5 : decode cX12_bottle 5 = .ok (.aload_n 0, 1) := by decide +kernel
theorem dX12_bottle_6 : decode cX12_bottle 6 = .ok (.iload_n 1, 1) := by decide +kernel
theorem dX12_bottle_7 : decode cX12_bottle 7 = .ok (.invokevirtual 280, 3) := by decide +kernel
theorem dX12_bottle_10 : decode cX12_bottle 10 = .ok (.ifCond .eq 16, 3) := by decide +kernel
theorem dX12_bottle_13 : decode cX12_bottle 13 = .ok (.aload_n 0, 1) := by decide +kernel
theorem dX12_bottle_14 : decode cX12_bottle 14 = .ok (.getfield 98, 3) := by decide +kernel
theorem dX12_bottle_17 : decode cX12_bottle 17 = .ok (.sipush 818, 3) := by decide +kernel
theorem dX12_bottle_20 : decode cX12_bottle 20 = .ok (.iload_n 1, 1) := by decide +kernel
theorem dX12_bottle_21 : decode cX12_bottle 21 = .ok (.iadd, 1) := by decide +kernel
theorem dX12_bottle_22 : decode cX12_bottle 22 = .ok (.iaload, 1) := by decide +kernel
theorem dX12_bottle_23 : decode cX12_bottle 23 = .ok (.goto 4, 3) := by decide +kernel
theorem dX12_bottle_26 : decode cX12_bottle 26 = .ok (.iconst (-1), 1) := by decide +kernel
theorem dX12_bottle_27 : decode cX12_bottle 27 = .ok (.ireturn, 1) := by decide +kernel
theorem dX12_older_0 : decode cX12_older 0 = .ok (.aload_n 0, 1) := by decide +kernel
theorem dX12_older_1 : decode cX12_older 1 = .ok (.iconst 0, 1) := by decide +kernel
theorem dX12_older_2 : decode cX12_older 2 = .ok (.putfield 1, 3) := by decide +kernel
theorem dX12_older_5 : decode cX12_older 5 = .ok (.aload_n 0, 1) := by decide +kernel
theorem dX12_older_6 : decode cX12_older 6 = .ok (.iload_n 1, 1) := by decide +kernel
theorem dX12_older_7 : decode cX12_older 7 = .ok (.invokevirtual 280, 3) := by decide +kernel
theorem dX12_older_10 : decode cX12_older 10 = .ok (.ifCond .ne 5, 3) := by decide +kernel
theorem dX12_older_13 : decode cX12_older 13 = .ok (.iconst (-1), 1) := by decide +kernel
theorem dX12_older_14 : decode cX12_older 14 = .ok (.ireturn, 1) := by decide +kernel
theorem dX12_older_15 : decode cX12_older 15 = .ok (.iconst 0, 1) := by decide +kernel
theorem dX12_older_16 : decode cX12_older 16 = .ok (.istore_n 2, 1) := by decide +kernel
theorem dX12_older_17 : decode cX12_older 17 = .ok (.iconst 0, 1) := by decide +kernel
theorem dX12_older_18 : decode cX12_older 18 = .ok (.istore_n 3, 1) := by decide +kernel
theorem dX12_older_19 : decode cX12_older 19 = .ok (.iload_n 3, 1) := by decide +kernel
theorem dX12_older_20 : decode cX12_older 20 = .ok (.aload_n 0, 1) := by decide +kernel
theorem dX12_older_21 : decode cX12_older 21 = .ok (.getfield 98, 3) := by decide +kernel
theorem dX12_older_24 : decode cX12_older 24 = .ok (.iconst 1, 1) := by decide +kernel
theorem dX12_older_25 : decode cX12_older 25 = .ok (.iaload, 1) := by decide +kernel
theorem dX12_older_26 : decode cX12_older 26 = .ok (.if_icmp .ge 18, 3) := by decide +kernel
theorem dX12_older_29 : decode cX12_older 29 = .ok (.iload_n 2, 1) := by decide +kernel
theorem dX12_older_30 : decode cX12_older 30 = .ok (.aload_n 0, 1) := by decide +kernel
theorem dX12_older_31 : decode cX12_older 31 = .ok (.iload_n 3, 1) := by decide +kernel
theorem dX12_older_32 : decode cX12_older 32 = .ok (.iload_n 1, 1) := by decide +kernel
theorem dX12_older_33 : decode cX12_older 33 = .ok (.invokevirtual 300, 3) := by decide +kernel
theorem dX12_older_36 : decode cX12_older 36 = .ok (.iadd, 1) := by decide +kernel
theorem dX12_older_37 : decode cX12_older 37 = .ok (.istore_n 2, 1) := by decide +kernel
theorem dX12_older_38 : decode cX12_older 38 = .ok (.iinc 3 1, 3) := by decide +kernel
theorem dX12_older_41 : decode cX12_older 41 = .ok (.goto (-22), 3) := by decide +kernel
theorem dX12_older_44 : decode cX12_older 44 = .ok (.iload_n 2, 1) := by decide +kernel
theorem dX12_older_45 : decode cX12_older 45 = .ok (.ireturn, 1) := by decide +kernel
theorem dX12_olderIn_0 : decode cX12_olderIn 0 = .ok (.iconst 0, 1) := by decide +kernel
theorem dX12_olderIn_1 : decode cX12_olderIn 1 = .ok (.istore_n 3, 1) := by decide +kernel
theorem dX12_olderIn_2 : decode cX12_olderIn 2 = .ok (.iconst 0, 1) := by decide +kernel
theorem dX12_olderIn_3 : decode cX12_olderIn 3 = .ok (.istore 4, 2) := by decide +kernel
theorem dX12_olderIn_5 : decode cX12_olderIn 5 = .ok (.iload 4, 2) := by decide +kernel
theorem dX12_olderIn_7 : decode cX12_olderIn 7 = .ok (.bipush 40, 2) := by decide +kernel
theorem dX12_olderIn_9 : decode cX12_olderIn 9 = .ok (.if_icmp .ge 40, 3) := by decide +kernel
theorem dX12_olderIn_12 : decode cX12_olderIn 12 = .ok (.aload_n 0, 1) := by decide +kernel
theorem dX12_olderIn_13 : decode cX12_olderIn 13 = .ok (.getfield 98, 3) := by decide +kernel
theorem dX12_olderIn_16 : decode cX12_olderIn 16 = .ok (.sipush 815, 3) := by decide +kernel
theorem dX12_olderIn_19 : decode cX12_olderIn 19 = .ok (.iaload, 1) := by decide +kernel
theorem dX12_olderIn_20 : decode cX12_olderIn 20 = .ok (.iload 4, 2) := by decide +kernel
theorem dX12_olderIn_22 : decode cX12_olderIn 22 = .ok (.isub, 1) := by decide +kernel
theorem dX12_olderIn_23 : decode cX12_olderIn 23 = .ok (.iload_n 2, 1) := by decide +kernel
theorem dX12_olderIn_24 : decode cX12_olderIn 24 = .ok (.if_icmp .lt 19, 3) := by decide +kernel
theorem dX12_olderIn_27 : decode cX12_olderIn 27 = .ok (.iload_n 3, 1) := by decide +kernel
theorem dX12_olderIn_28 : decode cX12_olderIn 28 = .ok (.aload_n 0, 1) := by decide +kernel
theorem dX12_olderIn_29 : decode cX12_olderIn 29 = .ok (.getfield 98, 3) := by decide +kernel
theorem dX12_olderIn_32 : decode cX12_olderIn 32 = .ok (.aload_n 0, 1) := by decide +kernel
theorem dX12_olderIn_33 : decode cX12_olderIn 33 = .ok (.iload_n 1, 1) := by decide +kernel
theorem dX12_olderIn_34 : decode cX12_olderIn 34 = .ok (.invokevirtual 251, 3) := by decide +kernel
theorem dX12_olderIn_37 : decode cX12_olderIn 37 = .ok (.iload 4, 2) := by decide +kernel
theorem dX12_olderIn_39 : decode cX12_olderIn 39 = .ok (.iadd, 1) := by decide +kernel
theorem dX12_olderIn_40 : decode cX12_olderIn 40 = .ok (.iaload, 1) := by decide +kernel
theorem dX12_olderIn_41 : decode cX12_olderIn 41 = .ok (.iadd, 1) := by decide +kernel
theorem dX12_olderIn_42 : decode cX12_olderIn 42 = .ok (.istore_n 3, 1) := by decide +kernel
theorem dX12_olderIn_43 : decode cX12_olderIn 43 = .ok (.iinc 4 1, 3) := by decide +kernel
theorem dX12_olderIn_46 : decode cX12_olderIn 46 = .ok (.goto (-41), 3) := by decide +kernel
theorem dX12_olderIn_49 : decode cX12_olderIn 49 = .ok (.iload_n 3, 1) := by decide +kernel
theorem dX12_olderIn_50 : decode cX12_olderIn 50 = .ok (.ireturn, 1) := by decide +kernel
theorem dX12_where_0 : decode cX12_where 0 = .ok (.aload_n 0, 1) := by decide +kernel
theorem dX12_where_1 : decode cX12_where 1 = .ok (.iconst 0, 1) := by decide +kernel
theorem dX12_where_2 : decode cX12_where 2 = .ok (.putfield 1, 3) := by decide +kernel
theorem dX12_where_5 : decode cX12_where 5 = .ok (.aload_n 0, 1) := by decide +kernel
theorem dX12_where_6 : decode cX12_where 6 = .ok (.iload_n 1, 1) := by decide +kernel
theorem dX12_where_7 : decode cX12_where 7 = .ok (.invokevirtual 280, 3) := by decide +kernel
theorem dX12_where_10 : decode cX12_where 10 = .ok (.ifCond .ne 5, 3) := by decide +kernel
theorem dX12_where_13 : decode cX12_where 13 = .ok (.iconst (-1), 1) := by decide +kernel
theorem dX12_where_14 : decode cX12_where 14 = .ok (.ireturn, 1) := by decide +kernel
theorem dX12_where_15 : decode cX12_where 15 = .ok (.iconst 0, 1) := by decide +kernel
theorem dX12_where_16 : decode cX12_where 16 = .ok (.istore_n 2, 1) := by decide +kernel
theorem dX12_where_17 : decode cX12_where 17 = .ok (.iconst 0, 1) := by decide +kernel
theorem dX12_where_18 : decode cX12_where 18 = .ok (.istore_n 3, 1) := by decide +kernel
theorem dX12_where_19 : decode cX12_where 19 = .ok (.iload_n 3, 1) := by decide +kernel
theorem dX12_where_20 : decode cX12_where 20 = .ok (.aload_n 0, 1) := by decide +kernel
theorem dX12_where_21 : decode cX12_where 21 = .ok (.getfield 98, 3) := by decide +kernel
theorem dX12_where_24 : decode cX12_where 24 = .ok (.iconst 1, 1) := by decide +kernel
theorem dX12_where_25 : decode cX12_where 25 = .ok (.iaload, 1) := by decide +kernel
theorem dX12_where_26 : decode cX12_where 26 = .ok (.if_icmp .ge 30, 3) := by decide +kernel
theorem dX12_where_29 : decode cX12_where 29 = .ok (.aload_n 0, 1) := by decide +kernel
theorem dX12_where_30 : decode cX12_where 30 = .ok (.getfield 98, 3) := by decide +kernel
theorem dX12_where_33 : decode cX12_where 33 = .ok (.aload_n 0, 1) := by decide +kernel
theorem dX12_where_34 : decode cX12_where 34 = .ok (.iload_n 3, 1) := by decide +kernel
theorem dX12_where_35 : decode cX12_where 35 = .ok (.invokevirtual 251, 3) := by decide +kernel
theorem dX12_where_38 : decode cX12_where 38 = .ok (.iload_n 1, 1) := by decide +kernel
theorem dX12_where_39 : decode cX12_where 39 = .ok (.iadd, 1) := by decide +kernel
theorem dX12_where_40 : decode cX12_where 40 = .ok (.iaload, 1) := by decide +kernel
theorem dX12_where_41 : decode cX12_where 41 = .ok (.ifCond .le 9, 3) := by decide +kernel
theorem dX12_where_44 : decode cX12_where 44 = .ok (.iload_n 2, 1) := by decide +kernel
theorem dX12_where_45 : decode cX12_where 45 = .ok (.iconst 1, 1) := by decide +kernel
theorem dX12_where_46 : decode cX12_where 46 = .ok (.iload_n 3, 1) := by decide +kernel
theorem dX12_where_47 : decode cX12_where 47 = .ok (.ishl, 1) := by decide +kernel
theorem dX12_where_48 : decode cX12_where 48 = .ok (.ior, 1) := by decide +kernel
theorem dX12_where_49 : decode cX12_where 49 = .ok (.istore_n 2, 1) := by decide +kernel
theorem dX12_where_50 : decode cX12_where 50 = .ok (.iinc 3 1, 3) := by decide +kernel
theorem dX12_where_53 : decode cX12_where 53 = .ok (.goto (-34), 3) := by decide +kernel
theorem dX12_where_56 : decode cX12_where 56 = .ok (.iload_n 2, 1) := by decide +kernel
theorem dX12_where_57 : decode cX12_where 57 = .ok (.ireturn, 1) := by decide +kernel
theorem dX12_layShares_0 : decode cX12_layShares 0 = .ok (.iconst 0, 1) := by decide +kernel
theorem dX12_layShares_1 : decode cX12_layShares 1 = .ok (.istore_n 3, 1) := by decide +kernel
theorem dX12_layShares_2 : decode cX12_layShares 2 = .ok (.iconst 0, 1) := by decide +kernel
theorem dX12_layShares_3 : decode cX12_layShares 3 = .ok (.istore 4, 2) := by decide +kernel
theorem dX12_layShares_5 : decode cX12_layShares 5 = .ok (.iload 4, 2) := by decide +kernel
theorem dX12_layShares_7 : decode cX12_layShares 7 = .ok (.iload_n 1, 1) := by decide +kernel
theorem dX12_layShares_8 : decode cX12_layShares 8 = .ok (.if_icmp .ge 19, 3) := by decide +kernel
theorem dX12_layShares_11 : decode cX12_layShares 11 = .ok (.iload_n 3, 1) := by decide +kernel
theorem dX12_layShares_12 : decode cX12_layShares 12 = .ok (.aload_n 0, 1) := by decide +kernel
theorem dX12_layShares_13 : decode cX12_layShares 13 = .ok (.getfield 127, 3) := by decide +kernel
theorem dX12_layShares_16 : decode cX12_layShares 16 = .ok (.iload 4, 2) := by decide +kernel
theorem dX12_layShares_18 : decode cX12_layShares 18 = .ok (.iaload, 1) := by decide +kernel
theorem dX12_layShares_19 : decode cX12_layShares 19 = .ok (.iadd, 1) := by decide +kernel
theorem dX12_layShares_20 : decode cX12_layShares 20 = .ok (.istore_n 3, 1) := by decide +kernel
theorem dX12_layShares_21 : decode cX12_layShares 21 = .ok (.iinc 4 1, 3) := by decide +kernel
theorem dX12_layShares_24 : decode cX12_layShares 24 = .ok (.goto (-19), 3) := by decide +kernel
theorem dX12_layShares_27 : decode cX12_layShares 27 = .ok (.iload_n 2, 1) := by decide +kernel
theorem dX12_layShares_28 : decode cX12_layShares 28 = .ok (.istore 4, 2) := by decide +kernel
theorem dX12_layShares_30 : decode cX12_layShares 30 = .ok (.iconst 0, 1) := by decide +kernel
theorem dX12_layShares_31 : decode cX12_layShares 31 = .ok (.istore 5, 2) := by decide +kernel
theorem dX12_layShares_33 : decode cX12_layShares 33 = .ok (.iload 5, 2) := by decide +kernel
theorem dX12_layShares_35 : decode cX12_layShares 35 = .ok (.iload_n 1, 1) := by decide +kernel
theorem dX12_layShares_36 : decode cX12_layShares 36 = .ok (.if_icmp .ge 73, 3) := by decide +kernel
theorem dX12_layShares_39 : decode cX12_layShares 39 = .ok (.aload_n 0, 1) := by decide +kernel
theorem dX12_layShares_40 : decode cX12_layShares 40 = .ok (.getfield 130, 3) := by decide +kernel
theorem dX12_layShares_43 : decode cX12_layShares 43 = .ok (.iload 5, 2) := by decide +kernel
theorem dX12_layShares_45 : decode cX12_layShares 45 = .ok (.iload_n 2, 1) := by decide +kernel
theorem dX12_layShares_46 : decode cX12_layShares 46 = .ok (.ifCond .ne 7, 3) := by decide +kernel
theorem dX12_layShares_49 : decode cX12_layShares 49 = .ok (.iconst 0, 1) := by decide +kernel
theorem dX12_layShares_50 : decode cX12_layShares 50 = .ok (.goto 14, 3) := by decide +kernel
theorem dX12_layShares_53 : decode cX12_layShares 53 = .ok (.aload_n 0, 1) := by decide +kernel
theorem dX12_layShares_54 : decode cX12_layShares 54 = .ok (.getfield 127, 3) := by decide +kernel
theorem dX12_layShares_57 : decode cX12_layShares 57 = .ok (.iload 5, 2) := by decide +kernel
theorem dX12_layShares_59 : decode cX12_layShares 59 = .ok (.iaload, 1) := by decide +kernel
theorem dX12_layShares_60 : decode cX12_layShares 60 = .ok (.iload_n 2, 1) := by decide +kernel
theorem dX12_layShares_61 : decode cX12_layShares 61 = .ok (.imul, 1) := by decide +kernel
theorem dX12_layShares_62 : decode cX12_layShares 62 = .ok (.iload_n 3, 1) := by decide +kernel
theorem dX12_layShares_63 : decode cX12_layShares 63 = .ok (.idiv, 1) := by decide +kernel
theorem dX12_layShares_64 : decode cX12_layShares 64 = .ok (.iastore, 1) := by decide +kernel
theorem dX12_layShares_65 : decode cX12_layShares 65 = .ok (.aload_n 0, 1) := by decide +kernel
theorem dX12_layShares_66 : decode cX12_layShares 66 = .ok (.getfield 133, 3) := by decide +kernel
theorem dX12_layShares_69 : decode cX12_layShares 69 = .ok (.iload 5, 2) := by decide +kernel
theorem dX12_layShares_71 : decode cX12_layShares 71 = .ok (.iload_n 2, 1) := by decide +kernel
theorem dX12_layShares_72 : decode cX12_layShares 72 = .ok (.ifCond .ne 7, 3) := by decide +kernel
theorem dX12_layShares_75 : decode cX12_layShares 75 = .ok (.iconst 0, 1) := by decide +kernel
theorem dX12_layShares_76 : decode cX12_layShares 76 = .ok (.goto 14, 3) := by decide +kernel
theorem dX12_layShares_79 : decode cX12_layShares 79 = .ok (.aload_n 0, 1) := by decide +kernel
theorem dX12_layShares_80 : decode cX12_layShares 80 = .ok (.getfield 127, 3) := by decide +kernel
theorem dX12_layShares_83 : decode cX12_layShares 83 = .ok (.iload 5, 2) := by decide +kernel
theorem dX12_layShares_85 : decode cX12_layShares 85 = .ok (.iaload, 1) := by decide +kernel
theorem dX12_layShares_86 : decode cX12_layShares 86 = .ok (.iload_n 2, 1) := by decide +kernel
theorem dX12_layShares_87 : decode cX12_layShares 87 = .ok (.imul, 1) := by decide +kernel
theorem dX12_layShares_88 : decode cX12_layShares 88 = .ok (.iload_n 3, 1) := by decide +kernel
theorem dX12_layShares_89 : decode cX12_layShares 89 = .ok (.irem, 1) := by decide +kernel
theorem dX12_layShares_90 : decode cX12_layShares 90 = .ok (.iastore, 1) := by decide +kernel
theorem dX12_layShares_91 : decode cX12_layShares 91 = .ok (.iload 4, 2) := by decide +kernel
theorem dX12_layShares_93 : decode cX12_layShares 93 = .ok (.aload_n 0, 1) := by decide +kernel
theorem dX12_layShares_94 : decode cX12_layShares 94 = .ok (.getfield 130, 3) := by decide +kernel
theorem dX12_layShares_97 : decode cX12_layShares 97 = .ok (.iload 5, 2) := by decide +kernel
theorem dX12_layShares_99 : decode cX12_layShares 99 = .ok (.iaload, 1) := by decide +kernel
theorem dX12_layShares_100 : decode cX12_layShares 100 = .ok (.isub, 1) := by decide +kernel
theorem dX12_layShares_101 : decode cX12_layShares 101 = .ok (.istore 4, 2) := by decide +kernel
theorem dX12_layShares_103 : decode cX12_layShares 103 = .ok (.iinc 5 1, 3) := by decide +kernel
theorem dX12_layShares_106 : decode cX12_layShares 106 = .ok (.goto (-73), 3) := by decide +kernel
theorem dX12_layShares_109 : decode cX12_layShares 109 = .ok (.iload 4, 2) := by decide +kernel
theorem dX12_layShares_111 : decode cX12_layShares 111 = .ok (.ifCond .le 67, 3) := by decide +kernel
theorem dX12_layShares_114 : decode cX12_layShares 114 = .ok (.iconst 0, 1) := by decide +kernel
theorem dX12_layShares_115 : decode cX12_layShares 115 = .ok (.istore 5, 2) := by decide +kernel
theorem dX12_layShares_117 : decode cX12_layShares 117 = .ok (.iconst 1, 1) := by decide +kernel
theorem dX12_layShares_118 : decode cX12_layShares 118 = .ok (.istore 6, 2) := by decide +kernel
theorem dX12_layShares_120 : decode cX12_layShares 120 = .ok (.iload 6, 2) := by decide +kernel
theorem dX12_layShares_122 : decode cX12_layShares 122 = .ok (.iload_n 1, 1) := by decide +kernel
theorem dX12_layShares_123 : decode cX12_layShares 123 = .ok (.if_icmp .ge 30, 3) := by decide +kernel
theorem dX12_layShares_126 : decode cX12_layShares 126 = .ok (.aload_n 0, 1) := by decide +kernel
theorem dX12_layShares_127 : decode cX12_layShares 127 = .ok (.getfield 133, 3) := by decide +kernel
theorem dX12_layShares_130 : decode cX12_layShares 130 = .ok (.iload 6, 2) := by decide +kernel
theorem dX12_layShares_132 : decode cX12_layShares 132 = .ok (.iaload, 1) := by decide +kernel
theorem dX12_layShares_133 : decode cX12_layShares 133 = .ok (.aload_n 0, 1) := by decide +kernel
theorem dX12_layShares_134 : decode cX12_layShares 134 = .ok (.getfield 133, 3) := by decide +kernel
theorem dX12_layShares_137 : decode cX12_layShares 137 = .ok (.iload 5, 2) := by decide +kernel
theorem dX12_layShares_139 : decode cX12_layShares 139 = .ok (.iaload, 1) := by decide +kernel
theorem dX12_layShares_140 : decode cX12_layShares 140 = .ok (.if_icmp .le 7, 3) := by decide +kernel
theorem dX12_layShares_143 : decode cX12_layShares 143 = .ok (.iload 6, 2) := by decide +kernel
theorem dX12_layShares_145 : decode cX12_layShares 145 = .ok (.istore 5, 2) := by decide +kernel
theorem dX12_layShares_147 : decode cX12_layShares 147 = .ok (.iinc 6 1, 3) := by decide +kernel
theorem dX12_layShares_150 : decode cX12_layShares 150 = .ok (.goto (-30), 3) := by decide +kernel
theorem dX12_layShares_153 : decode cX12_layShares 153 = .ok (.aload_n 0, 1) := by decide +kernel
theorem dX12_layShares_154 : decode cX12_layShares 154 = .ok (.getfield 130, 3) := by decide +kernel
theorem dX12_layShares_157 : decode cX12_layShares 157 = .ok (.iload 5, 2) := by decide +kernel
theorem dX12_layShares_159 : decode cX12_layShares 159 = .ok (.dup2, 1) := by decide +kernel
theorem dX12_layShares_160 : decode cX12_layShares 160 = .ok (.iaload, 1) := by decide +kernel
theorem dX12_layShares_161 : decode cX12_layShares 161 = .ok (.iconst 1, 1) := by decide +kernel
theorem dX12_layShares_162 : decode cX12_layShares 162 = .ok (.iadd, 1) := by decide +kernel
theorem dX12_layShares_163 : decode cX12_layShares 163 = .ok (.iastore, 1) := by decide +kernel
theorem dX12_layShares_164 : decode cX12_layShares 164 = .ok (.aload_n 0, 1) := by decide +kernel
theorem dX12_layShares_165 : decode cX12_layShares 165 = .ok (.getfield 133, 3) := by decide +kernel
theorem dX12_layShares_168 : decode cX12_layShares 168 = .ok (.iload 5, 2) := by decide +kernel
theorem dX12_layShares_170 : decode cX12_layShares 170 = .ok (.iconst (-1), 1) := by decide +kernel
theorem dX12_layShares_171 : decode cX12_layShares 171 = .ok (.iastore, 1) := by decide +kernel
theorem dX12_layShares_172 : decode cX12_layShares 172 = .ok (.iinc 4 (-1), 3) := by decide +kernel
theorem dX12_layShares_175 : decode cX12_layShares 175 = .ok (.goto (-66), 3) := by decide +kernel
theorem dX12_layShares_178 : decode cX12_layShares 178 = .ok (.return_, 1) := by decide +kernel
theorem dX12_layPortion_0 : decode cX12_layPortion 0 = .ok (.iconst 0, 1) := by decide +kernel
theorem dX12_layPortion_1 : decode cX12_layPortion 1 = .ok (.istore 4, 2) := by decide +kernel
theorem dX12_layPortion_3 : decode cX12_layPortion 3 = .ok (.iload 4, 2) := by decide +kernel
theorem dX12_layPortion_5 : decode cX12_layPortion 5 = .ok (.bipush 40, 2) := by decide +kernel
theorem dX12_layPortion_7 : decode cX12_layPortion 7 = .ok (.if_icmp .ge 22, 3) := by decide +kernel
theorem dX12_layPortion_10 : decode cX12_layPortion 10 = .ok (.aload_n 0, 1) := by decide +kernel
theorem dX12_layPortion_11 : decode cX12_layPortion 11 = .ok (.getfield 127, 3) := by decide +kernel
theorem dX12_layPortion_14 : decode cX12_layPortion 14 = .ok (.iload 4, 2) := by decide +kernel
theorem dX12_layPortion_16 : decode cX12_layPortion 16 = .ok (.aload_n 1, 1) := by decide +kernel
theorem dX12_layPortion_17 : decode cX12_layPortion 17 = .ok (.iload_n 2, 1) := by decide +kernel
theorem dX12_layPortion_18 : decode cX12_layPortion 18 = .ok (.iload 4, 2) := by decide +kernel
theorem dX12_layPortion_20 : decode cX12_layPortion 20 = .ok (.iadd, 1) := by decide +kernel
theorem dX12_layPortion_21 : decode cX12_layPortion 21 = .ok (.iaload, 1) := by decide +kernel
theorem dX12_layPortion_22 : decode cX12_layPortion 22 = .ok (.iastore, 1) := by decide +kernel
theorem dX12_layPortion_23 : decode cX12_layPortion 23 = .ok (.iinc 4 1, 3) := by decide +kernel
theorem dX12_layPortion_26 : decode cX12_layPortion 26 = .ok (.goto (-23), 3) := by decide +kernel
theorem dX12_layPortion_29 : decode cX12_layPortion 29 = .ok (.aload_n 0, 1) := by decide +kernel
theorem dX12_layPortion_30 : decode cX12_layPortion 30 = .ok (.bipush 40, 2) := by decide +kernel
theorem dX12_layPortion_32 : decode cX12_layPortion 32 = .ok (.iload_n 3, 1) := by decide +kernel
theorem dX12_layPortion_33 : decode cX12_layPortion 33 = .ok (.invokevirtual 303, 3) := by decide +kernel
theorem dX12_layPortion_36 : decode cX12_layPortion 36 = .ok (.return_, 1) := by decide +kernel
theorem dX12_pours_0 : decode cX12_pours 0 = .ok (.aload_n 0, 1) := by decide +kernel
theorem dX12_pours_1 : decode cX12_pours 1 = .ok (.aload_n 1, 1) := by decide +kernel
theorem dX12_pours_2 : decode cX12_pours 2 = .ok (.iload_n 2, 1) := by decide +kernel
theorem dX12_pours_3 : decode cX12_pours 3 = .ok (.iload_n 3, 1) := by decide +kernel
theorem dX12_pours_4 : decode cX12_pours 4 = .ok (.invokevirtual 307, 3) := by decide +kernel
theorem dX12_pours_7 : decode cX12_pours 7 = .ok (.iconst 0, 1) := by decide +kernel
theorem dX12_pours_8 : decode cX12_pours 8 = .ok (.istore 6, 2) := by decide +kernel
theorem dX12_pours_10 : decode cX12_pours 10 = .ok (.iload 6, 2) := by decide +kernel
theorem dX12_pours_12 : decode cX12_pours 12 = .ok (.bipush 40, 2) := by decide +kernel
theorem dX12_pours_14 : decode cX12_pours 14 = .ok (.if_icmp .ge 43, 3) := by decide +kernel
theorem dX12_pours_17 : decode cX12_pours 17 = .ok (.aload_n 1, 1) := by decide +kernel
theorem dX12_pours_18 : decode cX12_pours 18 = .ok (.iload_n 2, 1) := by decide +kernel
theorem dX12_pours_19 : decode cX12_pours 19 = .ok (.iload 6, 2) := by decide +kernel
theorem dX12_pours_21 : decode cX12_pours 21 = .ok (.iadd, 1) := by decide +kernel
theorem dX12_pours_22 : decode cX12_pours 22 = .ok (.dup2, 1) := by decide +kernel
theorem dX12_pours_23 : decode cX12_pours 23 = .ok (.iaload, 1) := by decide +kernel
theorem dX12_pours_24 : decode cX12_pours 24 = .ok (.aload_n 0, 1) := by decide +kernel
theorem dX12_pours_25 : decode cX12_pours 25 = .ok (.getfield 130, 3) := by decide +kernel
theorem dX12_pours_28 : decode cX12_pours 28 = .ok (.iload 6, 2) := by decide +kernel
theorem dX12_pours_30 : decode cX12_pours 30 = .ok (.iaload, 1) := by decide +kernel
theorem dX12_pours_31 : decode cX12_pours 31 = .ok (.isub, 1) := by decide +kernel
theorem dX12_pours_32 : decode cX12_pours 32 = .ok (.iastore, 1) := by decide +kernel
theorem dX12_pours_33 : decode cX12_pours 33 = .ok (.aload 4, 2) := by decide +kernel
theorem dX12_pours_35 : decode cX12_pours 35 = .ok (.iload 5, 2) := by decide +kernel
theorem dX12_pours_37 : decode cX12_pours 37 = .ok (.iload 6, 2) := by decide +kernel
theorem dX12_pours_39 : decode cX12_pours 39 = .ok (.iadd, 1) := by decide +kernel
theorem dX12_pours_40 : decode cX12_pours 40 = .ok (.dup2, 1) := by decide +kernel
theorem dX12_pours_41 : decode cX12_pours 41 = .ok (.iaload, 1) := by decide +kernel
theorem dX12_pours_42 : decode cX12_pours 42 = .ok (.aload_n 0, 1) := by decide +kernel
theorem dX12_pours_43 : decode cX12_pours 43 = .ok (.getfield 130, 3) := by decide +kernel
theorem dX12_pours_46 : decode cX12_pours 46 = .ok (.iload 6, 2) := by decide +kernel
theorem dX12_pours_48 : decode cX12_pours 48 = .ok (.iaload, 1) := by decide +kernel
theorem dX12_pours_49 : decode cX12_pours 49 = .ok (.iadd, 1) := by decide +kernel
theorem dX12_pours_50 : decode cX12_pours 50 = .ok (.iastore, 1) := by decide +kernel
theorem dX12_pours_51 : decode cX12_pours 51 = .ok (.iinc 6 1, 3) := by decide +kernel
theorem dX12_pours_54 : decode cX12_pours 54 = .ok (.goto (-44), 3) := by decide +kernel
theorem dX12_pours_57 : decode cX12_pours 57 = .ok (.return_, 1) := by decide +kernel
theorem dX12_clear_0 : decode cX12_clear 0 = .ok (.iconst 0, 1) := by decide +kernel
theorem dX12_clear_1 : decode cX12_clear 1 = .ok (.istore_n 3, 1) := by decide +kernel
theorem dX12_clear_2 : decode cX12_clear 2 = .ok (.iload_n 3, 1) := by decide +kernel
theorem dX12_clear_3 : decode cX12_clear 3 = .ok (.bipush 40, 2) := by decide +kernel
theorem dX12_clear_5 : decode cX12_clear 5 = .ok (.if_icmp .ge 15, 3) := by decide +kernel
theorem dX12_clear_8 : decode cX12_clear 8 = .ok (.aload_n 1, 1) := by decide +kernel
theorem dX12_clear_9 : decode cX12_clear 9 = .ok (.iload_n 2, 1) := by decide +kernel
theorem dX12_clear_10 : decode cX12_clear 10 = .ok (.iload_n 3, 1) := by decide +kernel
theorem dX12_clear_11 : decode cX12_clear 11 = .ok (.iadd, 1) := by decide +kernel
theorem dX12_clear_12 : decode cX12_clear 12 = .ok (.iconst 0, 1) := by decide +kernel
theorem dX12_clear_13 : decode cX12_clear 13 = .ok (.iastore, 1) := by decide +kernel
theorem dX12_clear_14 : decode cX12_clear 14 = .ok (.iinc 3 1, 3) := by decide +kernel
theorem dX12_clear_17 : decode cX12_clear 17 = .ok (.goto (-15), 3) := by decide +kernel
theorem dX12_clear_20 : decode cX12_clear 20 = .ok (.return_, 1) := by decide +kernel
theorem dX12_snap_0 : decode cX12_snap 0 = .ok (.aload_n 0, 1) := by decide +kernel
theorem dX12_snap_1 : decode cX12_snap 1 = .ok (.getfield 245, 3) := by decide +kernel
theorem dX12_snap_4 : decode cX12_snap 4 = .ok (.bipush 8, 2) := by decide +kernel
theorem dX12_snap_6 : decode cX12_snap 6 = .ok (.if_icmp .ne 44, 3) := by decide +kernel
theorem dX12_snap_9 : decode cX12_snap 9 = .ok (.iconst 0, 1) := by decide +kernel
theorem dX12_snap_10 : decode cX12_snap 10 = .ok (.istore_n 1, 1) := by decide +kernel
theorem dX12_snap_11 : decode cX12_snap 11 = .ok (.iload_n 1, 1) := by decide +kernel
theorem dX12_snap_12 : decode cX12_snap 12 = .ok (.sipush 6041, 3) := by decide +kernel
theorem dX12_snap_15 : decode cX12_snap 15 = .ok (.if_icmp .ge 25, 3) := by decide +kernel
theorem dX12_snap_18 : decode cX12_snap 18 = .ok (.aload_n 0, 1) := by decide +kernel
theorem dX12_snap_19 : decode cX12_snap 19 = .ok (.getfield 107, 3) := by decide +kernel
theorem dX12_snap_22 : decode cX12_snap 22 = .ok (.iload_n 1, 1) := by decide +kernel
theorem dX12_snap_23 : decode cX12_snap 23 = .ok (.aload_n 0, 1) := by decide +kernel
theorem dX12_snap_24 : decode cX12_snap 24 = .ok (.getfield 107, 3) := by decide +kernel
theorem dX12_snap_27 : decode cX12_snap 27 = .ok (.iload_n 1, 1) := by decide +kernel
theorem dX12_snap_28 : decode cX12_snap 28 = .ok (.sipush 863, 3) := by decide +kernel
theorem dX12_snap_31 : decode cX12_snap 31 = .ok (.iadd, 1) := by decide +kernel
theorem dX12_snap_32 : decode cX12_snap 32 = .ok (.iaload, 1) := by decide +kernel
theorem dX12_snap_33 : decode cX12_snap 33 = .ok (.iastore, 1) := by decide +kernel
theorem dX12_snap_34 : decode cX12_snap 34 = .ok (.iinc 1 1, 3) := by decide +kernel
theorem dX12_snap_37 : decode cX12_snap 37 = .ok (.goto (-26), 3) := by decide +kernel
theorem dX12_snap_40 : decode cX12_snap 40 = .ok (.aload_n 0, 1) := by decide +kernel
theorem dX12_snap_41 : decode cX12_snap 41 = .ok (.dup, 1) := by decide +kernel
theorem dX12_snap_42 : decode cX12_snap 42 = .ok (.getfield 245, 3) := by decide +kernel
theorem dX12_snap_45 : decode cX12_snap 45 = .ok (.iconst 1, 1) := by decide +kernel
theorem dX12_snap_46 : decode cX12_snap 46 = .ok (.isub, 1) := by decide +kernel
theorem dX12_snap_47 : decode cX12_snap 47 = .ok (.putfield 245, 3) := by decide +kernel
theorem dX12_snap_50 : decode cX12_snap 50 = .ok (.iconst 0, 1) := by decide +kernel
theorem dX12_snap_51 : decode cX12_snap 51 = .ok (.istore_n 1, 1) := by decide +kernel
theorem dX12_snap_52 : decode cX12_snap 52 = .ok (.iload_n 1, 1) := by decide +kernel
theorem dX12_snap_53 : decode cX12_snap 53 = .ok (.sipush 863, 3) := by decide +kernel
theorem dX12_snap_56 : decode cX12_snap 56 = .ok (.if_icmp .ge 34, 3) := by decide +kernel
theorem dX12_snap_59 : decode cX12_snap 59 = .ok (.aload_n 0, 1) := by decide +kernel
theorem dX12_snap_60 : decode cX12_snap 60 = .ok (.getfield 107, 3) := by decide +kernel
theorem dX12_snap_63 : decode cX12_snap 63 = .ok (.sipush 863, 3) := by decide +kernel
theorem dX12_snap_66 : decode cX12_snap 66 = .ok (.aload_n 0, 1) := by decide +kernel
theorem dX12_snap_67 : decode cX12_snap 67 = .ok (.getfield 245, 3) := by decide +kernel
theorem dX12_snap_70 : decode cX12_snap 70 = .ok (.imul, 1) := by decide +kernel
theorem dX12_snap_71 : decode cX12_snap 71 = .ok (.iload_n 1, 1) := by decide +kernel
theorem dX12_snap_72 : decode cX12_snap 72 = .ok (.iadd, 1) := by decide +kernel
theorem dX12_snap_73 : decode cX12_snap 73 = .ok (.aload_n 0, 1) := by decide +kernel
theorem dX12_snap_74 : decode cX12_snap 74 = .ok (.getfield 98, 3) := by decide +kernel
theorem dX12_snap_77 : decode cX12_snap 77 = .ok (.sipush 815, 3) := by decide +kernel
theorem dX12_snap_80 : decode cX12_snap 80 = .ok (.iload_n 1, 1) := by decide +kernel
theorem dX12_snap_81 : decode cX12_snap 81 = .ok (.iadd, 1) := by decide +kernel
theorem dX12_snap_82 : decode cX12_snap 82 = .ok (.iaload, 1) := by decide +kernel
theorem dX12_snap_83 : decode cX12_snap 83 = .ok (.iastore, 1) := by decide +kernel
theorem dX12_snap_84 : decode cX12_snap 84 = .ok (.iinc 1 1, 3) := by decide +kernel
theorem dX12_snap_87 : decode cX12_snap 87 = .ok (.goto (-35), 3) := by decide +kernel
theorem dX12_snap_90 : decode cX12_snap 90 = .ok (.aload_n 0, 1) := by decide +kernel
theorem dX12_snap_91 : decode cX12_snap 91 = .ok (.dup, 1) := by decide +kernel
theorem dX12_snap_92 : decode cX12_snap 92 = .ok (.getfield 245, 3) := by decide +kernel
theorem dX12_snap_95 : decode cX12_snap 95 = .ok (.iconst 1, 1) := by decide +kernel
theorem dX12_snap_96 : decode cX12_snap 96 = .ok (.iadd, 1) := by decide +kernel
theorem dX12_snap_97 : decode cX12_snap 97 = .ok (.putfield 245, 3) := by decide +kernel
theorem dX12_snap_100 : decode cX12_snap 100 = .ok (.return_, 1) := by decide +kernel
theorem dX12_whyRun_0 : decode cX12_whyRun 0 = .ok (.aload_n 0, 1) := by decide +kernel
theorem dX12_whyRun_1 : decode cX12_whyRun 1 = .ok (.iload_n 1, 1) := by decide +kernel
theorem dX12_whyRun_2 : decode cX12_whyRun 2 = .ok (.iconst 1, 1) := by decide +kernel
theorem dX12_whyRun_3 : decode cX12_whyRun 3 = .ok (.invokevirtual 276, 3) := by decide +kernel
theorem dX12_whyRun_6 : decode cX12_whyRun 6 = .ok (.ifCond .ne 5, 3) := by decide +kernel
theorem dX12_whyRun_9 : decode cX12_whyRun 9 = .ok (.iconst 1, 1) := by decide +kernel
theorem dX12_whyRun_10 : decode cX12_whyRun 10 = .ok (.ireturn, 1) := by decide +kernel
theorem dX12_whyRun_11 : decode cX12_whyRun 11 = .ok (.iload_n 1, 1) := by decide +kernel
theorem dX12_whyRun_12 : decode cX12_whyRun 12 = .ok (.aload_n 0, 1) := by decide +kernel
theorem dX12_whyRun_13 : decode cX12_whyRun 13 = .ok (.getfield 98, 3) := by decide +kernel
theorem dX12_whyRun_16 : decode cX12_whyRun 16 = .ok (.iconst 0, 1) := by decide +kernel
theorem dX12_whyRun_17 : decode cX12_whyRun 17 = .ok (.iaload, 1) := by decide +kernel
theorem dX12_whyRun_18 : decode cX12_whyRun 18 = .ok (.iconst 1, 1) := by decide +kernel
theorem dX12_whyRun_19 : decode cX12_whyRun 19 = .ok (.isub, 1) := by decide +kernel
theorem dX12_whyRun_20 : decode cX12_whyRun 20 = .ok (.if_icmp .ne 5, 3) := by decide +kernel
theorem dX12_whyRun_23 : decode cX12_whyRun 23 = .ok (.iconst 2, 1) := by decide +kernel
theorem dX12_whyRun_24 : decode cX12_whyRun 24 = .ok (.ireturn, 1) := by decide +kernel
theorem dX12_whyRun_25 : decode cX12_whyRun 25 = .ok (.aload_n 0, 1) := by decide +kernel
theorem dX12_whyRun_26 : decode cX12_whyRun 26 = .ok (.iload_n 1, 1) := by decide +kernel
theorem dX12_whyRun_27 : decode cX12_whyRun 27 = .ok (.iconst 1, 1) := by decide +kernel
theorem dX12_whyRun_28 : decode cX12_whyRun 28 = .ok (.iadd, 1) := by decide +kernel
theorem dX12_whyRun_29 : decode cX12_whyRun 29 = .ok (.iconst 0, 1) := by decide +kernel
theorem dX12_whyRun_30 : decode cX12_whyRun 30 = .ok (.invokevirtual 276, 3) := by decide +kernel
theorem dX12_whyRun_33 : decode cX12_whyRun 33 = .ok (.aload_n 0, 1) := by decide +kernel
theorem dX12_whyRun_34 : decode cX12_whyRun 34 = .ok (.iload_n 1, 1) := by decide +kernel
theorem dX12_whyRun_35 : decode cX12_whyRun 35 = .ok (.iconst 1, 1) := by decide +kernel
theorem dX12_whyRun_36 : decode cX12_whyRun 36 = .ok (.invokevirtual 276, 3) := by decide +kernel
theorem dX12_whyRun_39 : decode cX12_whyRun 39 = .ok (.if_icmp .ge 7, 3) := by decide +kernel
theorem dX12_whyRun_42 : decode cX12_whyRun 42 = .ok (.iconst 3, 1) := by decide +kernel
theorem dX12_whyRun_43 : decode cX12_whyRun 43 = .ok (.goto 4, 3) := by decide +kernel
theorem dX12_whyRun_46 : decode cX12_whyRun 46 = .ok (.iconst 0, 1) := by decide +kernel
theorem dX12_whyRun_47 : decode cX12_whyRun 47 = .ok (.ireturn, 1) := by decide +kernel
theorem dX12_whyTip_0 : decode cX12_whyTip 0 = .ok (.iload_n 1, 1) := by decide +kernel
theorem dX12_whyTip_1 : decode cX12_whyTip 1 = .ok (.iload_n 2, 1) := by decide +kernel
theorem dX12_whyTip_2 : decode cX12_whyTip 2 = .ok (.if_icmp .ne 7, 3) := by decide +kernel
theorem dX12_whyTip_5 : decode cX12_whyTip 5 = .ok (.iconst 1, 1) := by decide +kernel
theorem dX12_whyTip_6 : decode cX12_whyTip 6 = .ok (.goto 30, 3) := by decide +kernel
theorem dX12_whyTip_9 : decode cX12_whyTip 9 = .ok (.aload_n 0, 1) := by decide +kernel
theorem dX12_whyTip_10 : decode cX12_whyTip 10 = .ok (.iload_n 1, 1) := by decide +kernel
theorem dX12_whyTip_11 : decode cX12_whyTip 11 = .ok (.invokevirtual 257, 3) := by decide +kernel
theorem dX12_whyTip_14 : decode cX12_whyTip 14 = .ok (.iload_n 3, 1) := by decide +kernel
theorem dX12_whyTip_15 : decode cX12_whyTip 15 = .ok (.if_icmp .ge 7, 3) := by decide +kernel
theorem dX12_whyTip_18 : decode cX12_whyTip 18 = .ok (.iconst 2, 1) := by decide +kernel
theorem dX12_whyTip_19 : decode cX12_whyTip 19 = .ok (.goto 17, 3) := by decide +kernel
theorem dX12_whyTip_22 : decode cX12_whyTip 22 = .ok (.aload_n 0, 1) := by decide +kernel
theorem dX12_whyTip_23 : decode cX12_whyTip 23 = .ok (.iload_n 2, 1) := by decide +kernel
theorem dX12_whyTip_24 : decode cX12_whyTip 24 = .ok (.invokevirtual 260, 3) := by decide +kernel
theorem dX12_whyTip_27 : decode cX12_whyTip 27 = .ok (.iload_n 3, 1) := by decide +kernel
theorem dX12_whyTip_28 : decode cX12_whyTip 28 = .ok (.if_icmp .ge 7, 3) := by decide +kernel
theorem dX12_whyTip_31 : decode cX12_whyTip 31 = .ok (.iconst 3, 1) := by decide +kernel
theorem dX12_whyTip_32 : decode cX12_whyTip 32 = .ok (.goto 4, 3) := by decide +kernel
theorem dX12_whyTip_35 : decode cX12_whyTip 35 = .ok (.iconst 0, 1) := by decide +kernel
theorem dX12_whyTip_36 : decode cX12_whyTip 36 = .ok (.ireturn, 1) := by decide +kernel
theorem dX12_why_0 : decode cX12_why 0 = .ok (.iload_n 1, 1) := by decide +kernel
theorem dX12_why_1 : decode cX12_why 1 = .ok (.tableswitch 106 0 2 #[27, 69, 75], 27) := by decide +kernel
theorem dX12_why_28 : decode cX12_why 28 = .ok (.aload_n 0, 1) := by decide +kernel
theorem dX12_why_29 : decode cX12_why 29 = .ok (.iload_n 2, 1) := by decide +kernel
theorem dX12_why_30 : decode cX12_why 30 = .ok (.invokevirtual 257, 3) := by decide +kernel
theorem dX12_why_33 : decode cX12_why 33 = .ok (.iload 4, 2) := by decide +kernel
theorem dX12_why_35 : decode cX12_why 35 = .ok (.if_icmp .ge 7, 3) := by decide +kernel
theorem dX12_why_38 : decode cX12_why 38 = .ok (.iconst 1, 1) := by decide +kernel
theorem dX12_why_39 : decode cX12_why 39 = .ok (.goto 30, 3) := by decide +kernel
theorem dX12_why_42 : decode cX12_why 42 = .ok (.aload_n 0, 1) := by decide +kernel
theorem dX12_why_43 : decode cX12_why 43 = .ok (.getfield 98, 3) := by decide +kernel
theorem dX12_why_46 : decode cX12_why 46 = .ok (.sipush 858, 3) := by decide +kernel
theorem dX12_why_49 : decode cX12_why 49 = .ok (.iload_n 2, 1) := by decide +kernel
theorem dX12_why_50 : decode cX12_why 50 = .ok (.iadd, 1) := by decide +kernel
theorem dX12_why_51 : decode cX12_why 51 = .ok (.iaload, 1) := by decide +kernel
theorem dX12_why_52 : decode cX12_why 52 = .ok (.iload 4, 2) := by decide +kernel
theorem dX12_why_54 : decode cX12_why 54 = .ok (.iadd, 1) := by decide +kernel
theorem dX12_why_55 : decode cX12_why 55 = .ok (.aload_n 0, 1) := by decide +kernel
theorem dX12_why_56 : decode cX12_why 56 = .ok (.getfield 98, 3) := by decide +kernel
theorem dX12_why_59 : decode cX12_why 59 = .ok (.iconst 3, 1) := by decide +kernel
theorem dX12_why_60 : decode cX12_why 60 = .ok (.iaload, 1) := by decide +kernel
theorem dX12_why_61 : decode cX12_why 61 = .ok (.if_icmp .le 7, 3) := by decide +kernel
theorem dX12_why_64 : decode cX12_why 64 = .ok (.iconst 2, 1) := by decide +kernel
theorem dX12_why_65 : decode cX12_why 65 = .ok (.goto 4, 3) := by decide +kernel
theorem dX12_why_68 : decode cX12_why 68 = .ok (.iconst 0, 1) := by decide +kernel
theorem dX12_why_69 : decode cX12_why 69 = .ok (.ireturn, 1) := by decide +kernel
theorem dX12_why_70 : decode cX12_why 70 = .ok (.aload_n 0, 1) := by decide +kernel
theorem dX12_why_71 : decode cX12_why 71 = .ok (.iload_n 2, 1) := by decide +kernel
theorem dX12_why_72 : decode cX12_why 72 = .ok (.invokevirtual 311, 3) := by decide +kernel
theorem dX12_why_75 : decode cX12_why 75 = .ok (.ireturn, 1) := by decide +kernel
theorem dX12_why_76 : decode cX12_why 76 = .ok (.aload_n 0, 1) := by decide +kernel
theorem dX12_why_77 : decode cX12_why 77 = .ok (.getfield 98, 3) := by decide +kernel
theorem dX12_why_80 : decode cX12_why 80 = .ok (.iconst 0, 1) := by decide +kernel
theorem dX12_why_81 : decode cX12_why 81 = .ok (.iaload, 1) := by decide +kernel
theorem dX12_why_82 : decode cX12_why 82 = .ok (.ifCond .eq 19, 3) := by decide +kernel
theorem dX12_why_85 : decode cX12_why 85 = .ok (.aload_n 0, 1) := by decide +kernel
theorem dX12_why_86 : decode cX12_why 86 = .ok (.aload_n 0, 1) := by decide +kernel
theorem dX12_why_87 : decode cX12_why 87 = .ok (.getfield 98, 3) := by decide +kernel
theorem dX12_why_90 : decode cX12_why 90 = .ok (.iconst 0, 1) := by decide +kernel
theorem dX12_why_91 : decode cX12_why 91 = .ok (.iaload, 1) := by decide +kernel
theorem dX12_why_92 : decode cX12_why 92 = .ok (.iconst 1, 1) := by decide +kernel
theorem dX12_why_93 : decode cX12_why 93 = .ok (.isub, 1) := by decide +kernel
theorem dX12_why_94 : decode cX12_why 94 = .ok (.iconst 1, 1) := by decide +kernel
theorem dX12_why_95 : decode cX12_why 95 = .ok (.invokevirtual 276, 3) := by decide +kernel
theorem dX12_why_98 : decode cX12_why 98 = .ok (.ifCond .ne 7, 3) := by decide +kernel
theorem dX12_why_101 : decode cX12_why 101 = .ok (.iconst 1, 1) := by decide +kernel
theorem dX12_why_102 : decode cX12_why 102 = .ok (.goto 4, 3) := by decide +kernel
theorem dX12_why_105 : decode cX12_why 105 = .ok (.iconst 0, 1) := by decide +kernel
theorem dX12_why_106 : decode cX12_why 106 = .ok (.ireturn, 1) := by decide +kernel
theorem dX12_why_107 : decode cX12_why 107 = .ok (.aload_n 0, 1) := by decide +kernel
theorem dX12_why_108 : decode cX12_why 108 = .ok (.iload_n 2, 1) := by decide +kernel
theorem dX12_why_109 : decode cX12_why 109 = .ok (.iload_n 3, 1) := by decide +kernel
theorem dX12_why_110 : decode cX12_why 110 = .ok (.iload 4, 2) := by decide +kernel
theorem dX12_why_112 : decode cX12_why 112 = .ok (.invokevirtual 314, 3) := by decide +kernel
theorem dX12_why_115 : decode cX12_why 115 = .ok (.ireturn, 1) := by decide +kernel
theorem dX12_draws_0 : decode cX12_draws 0 = .ok (.aload_n 0, 1) := by decide +kernel
theorem dX12_draws_1 : decode cX12_draws 1 = .ok (.aload_n 0, 1) := by decide +kernel
theorem dX12_draws_2 : decode cX12_draws 2 = .ok (.getfield 98, 3) := by decide +kernel
theorem dX12_draws_5 : decode cX12_draws 5 = .ok (.sipush 818, 3) := by decide +kernel
theorem dX12_draws_8 : decode cX12_draws 8 = .ok (.invokevirtual 317, 3) := by decide +kernel
theorem dX12_draws_11 : decode cX12_draws 11 = .ok (.aload_n 0, 1) := by decide +kernel
theorem dX12_draws_12 : decode cX12_draws 12 = .ok (.aload_n 0, 1) := by decide +kernel
theorem dX12_draws_13 : decode cX12_draws 13 = .ok (.getfield 98, 3) := by decide +kernel
theorem dX12_draws_16 : decode cX12_draws 16 = .ok (.aload_n 0, 1) := by decide +kernel
theorem dX12_draws_17 : decode cX12_draws 17 = .ok (.iload_n 1, 1) := by decide +kernel
theorem dX12_draws_18 : decode cX12_draws 18 = .ok (.invokevirtual 251, 3) := by decide +kernel
theorem dX12_draws_21 : decode cX12_draws 21 = .ok (.iload_n 2, 1) := by decide +kernel
theorem dX12_draws_22 : decode cX12_draws 22 = .ok (.aload_n 0, 1) := by decide +kernel
theorem dX12_draws_23 : decode cX12_draws 23 = .ok (.getfield 98, 3) := by decide +kernel
theorem dX12_draws_26 : decode cX12_draws 26 = .ok (.sipush 818, 3) := by decide +kernel
theorem dX12_draws_29 : decode cX12_draws 29 = .ok (.invokevirtual 321, 3) := by decide +kernel
theorem dX12_draws_32 : decode cX12_draws 32 = .ok (.aload_n 0, 1) := by decide +kernel
theorem dX12_draws_33 : decode cX12_draws 33 = .ok (.getfield 98, 3) := by decide +kernel
theorem dX12_draws_36 : decode cX12_draws 36 = .ok (.sipush 858, 3) := by decide +kernel
theorem dX12_draws_39 : decode cX12_draws 39 = .ok (.iload_n 1, 1) := by decide +kernel
theorem dX12_draws_40 : decode cX12_draws 40 = .ok (.iadd, 1) := by decide +kernel
theorem dX12_draws_41 : decode cX12_draws 41 = .ok (.dup2, 1) := by decide +kernel
theorem dX12_draws_42 : decode cX12_draws 42 = .ok (.iaload, 1) := by decide +kernel
theorem dX12_draws_43 : decode cX12_draws 43 = .ok (.iload_n 2, 1) := by decide +kernel
theorem dX12_draws_44 : decode cX12_draws 44 = .ok (.iadd, 1) := by decide +kernel
theorem dX12_draws_45 : decode cX12_draws 45 = .ok (.iastore, 1) := by decide +kernel
theorem dX12_draws_46 : decode cX12_draws 46 = .ok (.aload_n 0, 1) := by decide +kernel
theorem dX12_draws_47 : decode cX12_draws 47 = .ok (.getfield 98, 3) := by decide +kernel
theorem dX12_draws_50 : decode cX12_draws 50 = .ok (.sipush 816, 3) := by decide +kernel
theorem dX12_draws_53 : decode cX12_draws 53 = .ok (.dup2, 1) := by decide +kernel
theorem dX12_draws_54 : decode cX12_draws 54 = .ok (.iaload, 1) := by decide +kernel
theorem dX12_draws_55 : decode cX12_draws 55 = .ok (.iload_n 2, 1) := by decide +kernel
theorem dX12_draws_56 : decode cX12_draws 56 = .ok (.iadd, 1) := by decide +kernel
theorem dX12_draws_57 : decode cX12_draws 57 = .ok (.iastore, 1) := by decide +kernel
theorem dX12_draws_58 : decode cX12_draws 58 = .ok (.return_, 1) := by decide +kernel
theorem dX12_runs_0 : decode cX12_runs 0 = .ok (.aload_n 0, 1) := by decide +kernel
theorem dX12_runs_1 : decode cX12_runs 1 = .ok (.getfield 98, 3) := by decide +kernel
theorem dX12_runs_4 : decode cX12_runs 4 = .ok (.iload_n 1, 1) := by decide +kernel
theorem dX12_runs_5 : decode cX12_runs 5 = .ok (.iconst 1, 1) := by decide +kernel
theorem dX12_runs_6 : decode cX12_runs 6 = .ok (.iadd, 1) := by decide +kernel
theorem dX12_runs_7 : decode cX12_runs 7 = .ok (.invokestatic 202, 3) := by decide +kernel
theorem dX12_runs_10 : decode cX12_runs 10 = .ok (.istore_n 2, 1) := by decide +kernel
theorem dX12_runs_11 : decode cX12_runs 11 = .ok (.aload_n 0, 1) := by decide +kernel
theorem dX12_runs_12 : decode cX12_runs 12 = .ok (.getfield 98, 3) := by decide +kernel
theorem dX12_runs_15 : decode cX12_runs 15 = .ok (.iconst 5, 1) := by decide +kernel
theorem dX12_runs_16 : decode cX12_runs 16 = .ok (.iload_n 1, 1) := by decide +kernel
theorem dX12_runs_17 : decode cX12_runs 17 = .ok (.iadd, 1) := by decide +kernel
theorem dX12_runs_18 : decode cX12_runs 18 = .ok (.iconst 1, 1) := by decide +kernel
theorem dX12_runs_19 : decode cX12_runs 19 = .ok (.iadd, 1) := by decide +kernel
theorem dX12_runs_20 : decode cX12_runs 20 = .ok (.iaload, 1) := by decide +kernel
theorem dX12_runs_21 : decode cX12_runs 21 = .ok (.istore_n 3, 1) := by decide +kernel
theorem dX12_runs_22 : decode cX12_runs 22 = .ok (.iconst 0, 1) := by decide +kernel
theorem dX12_runs_23 : decode cX12_runs 23 = .ok (.istore 4, 2) := by decide +kernel
theorem dX12_runs_25 : decode cX12_runs 25 = .ok (.iload 4, 2) := by decide +kernel
theorem dX12_runs_27 : decode cX12_runs 27 = .ok (.iload_n 3, 1) := by decide +kernel
theorem dX12_runs_28 : decode cX12_runs 28 = .ok (.if_icmp .ge 24, 3) := by decide +kernel
theorem dX12_runs_31 : decode cX12_runs 31 = .ok (.aload_n 0, 1) := by decide +kernel
theorem dX12_runs_32 : decode cX12_runs 32 = .ok (.getfield 127, 3) := by decide +kernel
theorem dX12_runs_35 : decode cX12_runs 35 = .ok (.iload 4, 2) := by decide +kernel
theorem dX12_runs_37 : decode cX12_runs 37 = .ok (.aload_n 0, 1) := by decide +kernel
theorem dX12_runs_38 : decode cX12_runs 38 = .ok (.iload_n 2, 1) := by decide +kernel
theorem dX12_runs_39 : decode cX12_runs 39 = .ok (.iload 4, 2) := by decide +kernel
theorem dX12_runs_41 : decode cX12_runs 41 = .ok (.iadd, 1) := by decide +kernel
theorem dX12_runs_42 : decode cX12_runs 42 = .ok (.invokevirtual 257, 3) := by decide +kernel
theorem dX12_runs_45 : decode cX12_runs 45 = .ok (.iastore, 1) := by decide +kernel
theorem dX12_runs_46 : decode cX12_runs 46 = .ok (.iinc 4 1, 3) := by decide +kernel
theorem dX12_runs_49 : decode cX12_runs 49 = .ok (.goto (-24), 3) := by decide +kernel
theorem dX12_runs_52 : decode cX12_runs 52 = .ok (.aload_n 0, 1) := by decide +kernel
theorem dX12_runs_53 : decode cX12_runs 53 = .ok (.iload_n 3, 1) := by decide +kernel
theorem dX12_runs_54 : decode cX12_runs 54 = .ok (.aload_n 0, 1) := by decide +kernel
theorem dX12_runs_55 : decode cX12_runs 55 = .ok (.iload_n 1, 1) := by decide +kernel
theorem dX12_runs_56 : decode cX12_runs 56 = .ok (.iconst 1, 1) := by decide +kernel
theorem dX12_runs_57 : decode cX12_runs 57 = .ok (.invokevirtual 276, 3) := by decide +kernel
theorem dX12_runs_60 : decode cX12_runs 60 = .ok (.invokevirtual 303, 3) := by decide +kernel
theorem dX12_runs_63 : decode cX12_runs 63 = .ok (.iconst 0, 1) := by decide +kernel
theorem dX12_runs_64 : decode cX12_runs 64 = .ok (.istore 4, 2) := by decide +kernel
theorem dX12_runs_66 : decode cX12_runs 66 = .ok (.iload 4, 2) := by decide +kernel
theorem dX12_runs_68 : decode cX12_runs 68 = .ok (.iload_n 3, 1) := by decide +kernel
theorem dX12_runs_69 : decode cX12_runs 69 = .ok (.if_icmp .ge 23, 3) := by decide +kernel
theorem dX12_runs_72 : decode cX12_runs 72 = .ok (.aload_n 0, 1) := by decide +kernel
theorem dX12_runs_73 : decode cX12_runs 73 = .ok (.getfield 139, 3) := by decide +kernel
theorem dX12_runs_76 : decode cX12_runs 76 = .ok (.iload 4, 2) := by decide +kernel
theorem dX12_runs_78 : decode cX12_runs 78 = .ok (.aload_n 0, 1) := by decide +kernel
theorem dX12_runs_79 : decode cX12_runs 79 = .ok (.getfield 130, 3) := by decide +kernel
theorem dX12_runs_82 : decode cX12_runs 82 = .ok (.iload 4, 2) := by decide +kernel
theorem dX12_runs_84 : decode cX12_runs 84 = .ok (.iaload, 1) := by decide +kernel
theorem dX12_runs_85 : decode cX12_runs 85 = .ok (.iastore, 1) := by decide +kernel
theorem dX12_runs_86 : decode cX12_runs 86 = .ok (.iinc 4 1, 3) := by decide +kernel
theorem dX12_runs_89 : decode cX12_runs 89 = .ok (.goto (-23), 3) := by decide +kernel
theorem dX12_runs_92 : decode cX12_runs 92 = .ok (.aload_n 0, 1) := by decide +kernel
theorem dX12_runs_93 : decode cX12_runs 93 = .ok (.aload_n 0, 1) := by decide +kernel
theorem dX12_runs_94 : decode cX12_runs 94 = .ok (.getfield 136, 3) := by decide +kernel
theorem dX12_runs_97 : decode cX12_runs 97 = .ok (.iconst 0, 1) := by decide +kernel
theorem dX12_runs_98 : decode cX12_runs 98 = .ok (.invokevirtual 317, 3) := by decide +kernel
theorem dX12_runs_101 : decode cX12_runs 101 = .ok (.iconst 0, 1) := by decide +kernel
theorem dX12_runs_102 : decode cX12_runs 102 = .ok (.istore 4, 2) := by decide +kernel
theorem dX12_runs_104 : decode cX12_runs 104 = .ok (.iload 4, 2) := by decide +kernel
theorem dX12_runs_106 : decode cX12_runs 106 = .ok (.iload_n 3, 1) := by decide +kernel
theorem dX12_runs_107 : decode cX12_runs 107 = .ok (.if_icmp .ge 37, 3) := by decide +kernel
theorem dX12_runs_110 : decode cX12_runs 110 = .ok (.aload_n 0, 1) := by decide +kernel
theorem dX12_runs_111 : decode cX12_runs 111 = .ok (.aload_n 0, 1) := by decide +kernel
theorem dX12_runs_112 : decode cX12_runs 112 = .ok (.getfield 98, 3) := by decide +kernel
theorem dX12_runs_115 : decode cX12_runs 115 = .ok (.aload_n 0, 1) := by decide +kernel
theorem dX12_runs_116 : decode cX12_runs 116 = .ok (.iload_n 2, 1) := by decide +kernel
theorem dX12_runs_117 : decode cX12_runs 117 = .ok (.iload 4, 2) := by decide +kernel
theorem dX12_runs_119 : decode cX12_runs 119 = .ok (.iadd, 1) := by decide +kernel
theorem dX12_runs_120 : decode cX12_runs 120 = .ok (.invokevirtual 251, 3) := by decide +kernel
theorem dX12_runs_123 : decode cX12_runs 123 = .ok (.aload_n 0, 1) := by decide +kernel
theorem dX12_runs_124 : decode cX12_runs 124 = .ok (.getfield 139, 3) := by decide +kernel
theorem dX12_runs_127 : decode cX12_runs 127 = .ok (.iload 4, 2) := by decide +kernel
theorem dX12_runs_129 : decode cX12_runs 129 = .ok (.iaload, 1) := by decide +kernel
theorem dX12_runs_130 : decode cX12_runs 130 = .ok (.aload_n 0, 1) := by decide +kernel
theorem dX12_runs_131 : decode cX12_runs 131 = .ok (.getfield 136, 3) := by decide +kernel
theorem dX12_runs_134 : decode cX12_runs 134 = .ok (.iconst 0, 1) := by decide +kernel
theorem dX12_runs_135 : decode cX12_runs 135 = .ok (.invokevirtual 321, 3) := by decide +kernel
theorem dX12_runs_138 : decode cX12_runs 138 = .ok (.iinc 4 1, 3) := by decide +kernel
theorem dX12_runs_141 : decode cX12_runs 141 = .ok (.goto (-37), 3) := by decide +kernel
theorem dX12_runs_144 : decode cX12_runs 144 = .ok (.aload_n 0, 1) := by decide +kernel
theorem dX12_runs_145 : decode cX12_runs 145 = .ok (.getfield 98, 3) := by decide +kernel
theorem dX12_runs_148 : decode cX12_runs 148 = .ok (.iload_n 1, 1) := by decide +kernel
theorem dX12_runs_149 : decode cX12_runs 149 = .ok (.invokestatic 202, 3) := by decide +kernel
theorem dX12_runs_152 : decode cX12_runs 152 = .ok (.istore 4, 2) := by decide +kernel
theorem dX12_runs_154 : decode cX12_runs 154 = .ok (.iload 4, 2) := by decide +kernel
theorem dX12_runs_156 : decode cX12_runs 156 = .ok (.iload_n 2, 1) := by decide +kernel
theorem dX12_runs_157 : decode cX12_runs 157 = .ok (.if_icmp .ge 34, 3) := by decide +kernel
theorem dX12_runs_160 : decode cX12_runs 160 = .ok (.aload_n 0, 1) := by decide +kernel
theorem dX12_runs_161 : decode cX12_runs 161 = .ok (.aload_n 0, 1) := by decide +kernel
theorem dX12_runs_162 : decode cX12_runs 162 = .ok (.getfield 136, 3) := by decide +kernel
theorem dX12_runs_165 : decode cX12_runs 165 = .ok (.iconst 0, 1) := by decide +kernel
theorem dX12_runs_166 : decode cX12_runs 166 = .ok (.aload_n 0, 1) := by decide +kernel
theorem dX12_runs_167 : decode cX12_runs 167 = .ok (.iload 4, 2) := by decide +kernel
theorem dX12_runs_169 : decode cX12_runs 169 = .ok (.invokevirtual 260, 3) := by decide +kernel
theorem dX12_runs_172 : decode cX12_runs 172 = .ok (.aload_n 0, 1) := by decide +kernel
theorem dX12_runs_173 : decode cX12_runs 173 = .ok (.getfield 98, 3) := by decide +kernel
theorem dX12_runs_176 : decode cX12_runs 176 = .ok (.aload_n 0, 1) := by decide +kernel
theorem dX12_runs_177 : decode cX12_runs 177 = .ok (.iload 4, 2) := by decide +kernel
theorem dX12_runs_179 : decode cX12_runs 179 = .ok (.invokevirtual 251, 3) := by decide +kernel
theorem dX12_runs_182 : decode cX12_runs 182 = .ok (.invokevirtual 321, 3) := by decide +kernel
theorem dX12_runs_185 : decode cX12_runs 185 = .ok (.iinc 4 1, 3) := by decide +kernel
theorem dX12_runs_188 : decode cX12_runs 188 = .ok (.goto (-34), 3) := by decide +kernel
theorem dX12_runs_191 : decode cX12_runs 191 = .ok (.return_, 1) := by decide +kernel
theorem dX12_tops_0 : decode cX12_tops 0 = .ok (.aload_n 0, 1) := by decide +kernel
theorem dX12_tops_1 : decode cX12_tops 1 = .ok (.getfield 98, 3) := by decide +kernel
theorem dX12_tops_4 : decode cX12_tops 4 = .ok (.aload_n 0, 1) := by decide +kernel
theorem dX12_tops_5 : decode cX12_tops 5 = .ok (.getfield 98, 3) := by decide +kernel
theorem dX12_tops_8 : decode cX12_tops 8 = .ok (.iconst 0, 1) := by decide +kernel
theorem dX12_tops_9 : decode cX12_tops 9 = .ok (.iaload, 1) := by decide +kernel
theorem dX12_tops_10 : decode cX12_tops 10 = .ok (.iconst 1, 1) := by decide +kernel
theorem dX12_tops_11 : decode cX12_tops 11 = .ok (.isub, 1) := by decide +kernel
theorem dX12_tops_12 : decode cX12_tops 12 = .ok (.invokestatic 202, 3) := by decide +kernel
theorem dX12_tops_15 : decode cX12_tops 15 = .ok (.istore_n 1, 1) := by decide +kernel
theorem dX12_tops_16 : decode cX12_tops 16 = .ok (.iload_n 1, 1) := by decide +kernel
theorem dX12_tops_17 : decode cX12_tops 17 = .ok (.aload_n 0, 1) := by decide +kernel
theorem dX12_tops_18 : decode cX12_tops 18 = .ok (.getfield 98, 3) := by decide +kernel
theorem dX12_tops_21 : decode cX12_tops 21 = .ok (.iconst 1, 1) := by decide +kernel
theorem dX12_tops_22 : decode cX12_tops 22 = .ok (.iaload, 1) := by decide +kernel
theorem dX12_tops_23 : decode cX12_tops 23 = .ok (.if_icmp .ge 36, 3) := by decide +kernel
theorem dX12_tops_26 : decode cX12_tops 26 = .ok (.aload_n 0, 1) := by decide +kernel
theorem dX12_tops_27 : decode cX12_tops 27 = .ok (.getfield 98, 3) := by decide +kernel
theorem dX12_tops_30 : decode cX12_tops 30 = .ok (.aload_n 0, 1) := by decide +kernel
theorem dX12_tops_31 : decode cX12_tops 31 = .ok (.iload_n 1, 1) := by decide +kernel
theorem dX12_tops_32 : decode cX12_tops 32 = .ok (.invokevirtual 251, 3) := by decide +kernel
theorem dX12_tops_35 : decode cX12_tops 35 = .ok (.aload_n 0, 1) := by decide +kernel
theorem dX12_tops_36 : decode cX12_tops 36 = .ok (.getfield 98, 3) := by decide +kernel
theorem dX12_tops_39 : decode cX12_tops 39 = .ok (.sipush 815, 3) := by decide +kernel
theorem dX12_tops_42 : decode cX12_tops 42 = .ok (.iaload, 1) := by decide +kernel
theorem dX12_tops_43 : decode cX12_tops 43 = .ok (.iadd, 1) := by decide +kernel
theorem dX12_tops_44 : decode cX12_tops 44 = .ok (.dup2, 1) := by decide +kernel
theorem dX12_tops_45 : decode cX12_tops 45 = .ok (.iaload, 1) := by decide +kernel
theorem dX12_tops_46 : decode cX12_tops 46 = .ok (.aload_n 0, 1) := by decide +kernel
theorem dX12_tops_47 : decode cX12_tops 47 = .ok (.iload_n 1, 1) := by decide +kernel
theorem dX12_tops_48 : decode cX12_tops 48 = .ok (.invokevirtual 260, 3) := by decide +kernel
theorem dX12_tops_51 : decode cX12_tops 51 = .ok (.iadd, 1) := by decide +kernel
theorem dX12_tops_52 : decode cX12_tops 52 = .ok (.iastore, 1) := by decide +kernel
theorem dX12_tops_53 : decode cX12_tops 53 = .ok (.iinc 1 1, 3) := by decide +kernel
theorem dX12_tops_56 : decode cX12_tops 56 = .ok (.goto (-40), 3) := by decide +kernel
theorem dX12_tops_59 : decode cX12_tops 59 = .ok (.return_, 1) := by decide +kernel
theorem dX12_live_0 : decode cX12_live 0 = .ok (.iload_n 1, 1) := by decide +kernel
theorem dX12_live_1 : decode cX12_live 1 = .ok (.tableswitch 46 0 2 #[27, 35, 41], 27) := by decide +kernel
theorem dX12_live_28 : decode cX12_live 28 = .ok (.aload_n 0, 1) := by decide +kernel
theorem dX12_live_29 : decode cX12_live 29 = .ok (.iload_n 2, 1) := by decide +kernel
theorem dX12_live_30 : decode cX12_live 30 = .ok (.iload 4, 2) := by decide +kernel
theorem dX12_live_32 : decode cX12_live 32 = .ok (.invokevirtual 325, 3) := by decide +kernel
theorem dX12_live_35 : decode cX12_live 35 = .ok (.return_, 1) := by decide +kernel
theorem dX12_live_36 : decode cX12_live 36 = .ok (.aload_n 0, 1) := by decide +kernel
theorem dX12_live_37 : decode cX12_live 37 = .ok (.iload_n 2, 1) := by decide +kernel
theorem dX12_live_38 : decode cX12_live 38 = .ok (.invokevirtual 328, 3) := by decide +kernel
theorem dX12_live_41 : decode cX12_live 41 = .ok (.return_, 1) := by decide +kernel
theorem dX12_live_42 : decode cX12_live 42 = .ok (.aload_n 0, 1) := by decide +kernel
theorem dX12_live_43 : decode cX12_live 43 = .ok (.invokevirtual 331, 3) := by decide +kernel
theorem dX12_live_46 : decode cX12_live 46 = .ok (.return_, 1) := by decide +kernel
theorem dX12_live_47 : decode cX12_live 47 = .ok (.aload_n 0, 1) := by decide +kernel
theorem dX12_live_48 : decode cX12_live 48 = .ok (.aload_n 0, 1) := by decide +kernel
theorem dX12_live_49 : decode cX12_live 49 = .ok (.getfield 98, 3) := by decide +kernel
theorem dX12_live_52 : decode cX12_live 52 = .ok (.aload_n 0, 1) := by decide +kernel
theorem dX12_live_53 : decode cX12_live 53 = .ok (.iload_n 2, 1) := by decide +kernel
theorem dX12_live_54 : decode cX12_live 54 = .ok (.invokevirtual 251, 3) := by decide +kernel
theorem dX12_live_57 : decode cX12_live 57 = .ok (.iload 4, 2) := by decide +kernel
theorem dX12_live_59 : decode cX12_live 59 = .ok (.aload_n 0, 1) := by decide +kernel
theorem dX12_live_60 : decode cX12_live 60 = .ok (.getfield 98, 3) := by decide +kernel
theorem dX12_live_63 : decode cX12_live 63 = .ok (.aload_n 0, 1) := by decide +kernel
theorem dX12_live_64 : decode cX12_live 64 = .ok (.iload_n 3, 1) := by decide +kernel
theorem dX12_live_65 : decode cX12_live 65 = .ok (.invokevirtual 251, 3) := by decide +kernel
theorem dX12_live_68 : decode cX12_live 68 = .ok (.invokevirtual 321, 3) := by decide +kernel
theorem dX12_live_71 : decode cX12_live 71 = .ok (.return_, 1) := by decide +kernel
theorem dX12_act_0 : decode cX12_act 0 = .ok (.iload 5, 2) := by decide +kernel
theorem dX12_act_2 : decode cX12_act 2 = .ok (.ifCond .ne 5, 3) := by decide +kernel
theorem dX12_act_5 : decode cX12_act 5 = .ok (.iconst (-1), 1) := by decide +kernel
theorem dX12_act_6 : decode cX12_act 6 = .ok (.ireturn, 1) := by decide +kernel
theorem dX12_act_7 : decode cX12_act 7 = .ok (.aload_n 0, 1) := by decide +kernel
theorem dX12_act_8 : decode cX12_act 8 = .ok (.iload_n 1, 1) := by decide +kernel
theorem dX12_act_9 : decode cX12_act 9 = .ok (.iload_n 2, 1) := by decide +kernel
theorem dX12_act_10 : decode cX12_act 10 = .ok (.iload_n 3, 1) := by decide +kernel
theorem dX12_act_11 : decode cX12_act 11 = .ok (.iload 4, 2) := by decide +kernel
theorem dX12_act_13 : decode cX12_act 13 = .ok (.invokevirtual 334, 3) := by decide +kernel
theorem dX12_act_16 : decode cX12_act 16 = .ok (.istore 6, 2) := by decide +kernel
theorem dX12_act_18 : decode cX12_act 18 = .ok (.iload 6, 2) := by decide +kernel
theorem dX12_act_20 : decode cX12_act 20 = .ok (.ifCond .eq 6, 3) := by decide +kernel
theorem dX12_act_23 : decode cX12_act 23 = .ok (.iload 6, 2) := by decide +kernel
theorem dX12_act_25 : decode cX12_act 25 = .ok (.ireturn, 1) := by decide +kernel
theorem dX12_act_26 : decode cX12_act 26 = .ok (.aload_n 0, 1) := by decide +kernel
theorem dX12_act_27 : decode cX12_act 27 = .ok (.invokevirtual 338, 3) := by decide +kernel
theorem dX12_act_30 : decode cX12_act 30 = .ok (.aload_n 0, 1) := by decide +kernel
theorem dX12_act_31 : decode cX12_act 31 = .ok (.iload_n 1, 1) := by decide +kernel
theorem dX12_act_32 : decode cX12_act 32 = .ok (.iload_n 2, 1) := by decide +kernel
theorem dX12_act_33 : decode cX12_act 33 = .ok (.iload_n 3, 1) := by decide +kernel
theorem dX12_act_34 : decode cX12_act 34 = .ok (.iload 4, 2) := by decide +kernel
theorem dX12_act_36 : decode cX12_act 36 = .ok (.invokevirtual 341, 3) := by decide +kernel
theorem dX12_act_39 : decode cX12_act 39 = .ok (.iconst 0, 1) := by decide +kernel
theorem dX12_act_40 : decode cX12_act 40 = .ok (.ireturn, 1) := by decide +kernel
theorem dX12_draw_0 : decode cX12_draw 0 = .ok (.aload_n 0, 1) := by decide +kernel
theorem dX12_draw_1 : decode cX12_draw 1 = .ok (.iconst 0, 1) := by decide +kernel
theorem dX12_draw_2 : decode cX12_draw 2 = .ok (.putfield 1, 3) := by decide +kernel
theorem dX12_draw_5 : decode cX12_draw 5 = .ok (.aload_n 0, 1) := by decide +kernel
theorem dX12_draw_6 : decode cX12_draw 6 = .ok (.iconst 0, 1) := by decide +kernel
theorem dX12_draw_7 : decode cX12_draw 7 = .ok (.iload_n 1, 1) := by decide +kernel
theorem dX12_draw_8 : decode cX12_draw 8 = .ok (.iconst 0, 1) := by decide +kernel
theorem dX12_draw_9 : decode cX12_draw 9 = .ok (.iload_n 2, 1) := by decide +kernel
theorem dX12_draw_10 : decode cX12_draw 10 = .ok (.aload_n 0, 1) := by decide +kernel
theorem dX12_draw_11 : decode cX12_draw 11 = .ok (.iload_n 1, 1) := by decide +kernel
theorem dX12_draw_12 : decode cX12_draw 12 = .ok (.invokevirtual 266, 3) := by decide +kernel
theorem dX12_draw_15 : decode cX12_draw 15 = .ok (.ifCond .eq 18, 3) := by decide +kernel
theorem dX12_draw_18 : decode cX12_draw 18 = .ok (.iload_n 2, 1) := by decide +kernel
theorem dX12_draw_19 : decode cX12_draw 19 = .ok (.iconst 1, 1) := by decide +kernel
theorem dX12_draw_20 : decode cX12_draw 20 = .ok (.sipush 400, 3) := by decide +kernel
theorem dX12_draw_23 : decode cX12_draw 23 = .ok (.invokestatic 75, 3) := by decide +kernel
theorem dX12_draw_26 : decode cX12_draw 26 = .ok (.ifCond .eq 7, 3) := by decide +kernel
theorem dX12_draw_29 : decode cX12_draw 29 = .ok (.iconst 1, 1) := by decide +kernel
theorem dX12_draw_30 : decode cX12_draw 30 = .ok (.goto 4, 3) := by decide +kernel
theorem dX12_draw_33 : decode cX12_draw 33 = .ok (.iconst 0, 1) := by decide +kernel
theorem dX12_draw_34 : decode cX12_draw 34 = .ok (.invokevirtual 345, 3) := by decide +kernel
theorem dX12_draw_37 : decode cX12_draw 37 = .ok (.ireturn, 1) := by decide +kernel
theorem dX12_run_0 : decode cX12_run 0 = .ok (.aload_n 0, 1) := by decide +kernel
theorem dX12_run_1 : decode cX12_run 1 = .ok (.iconst 0, 1) := by decide +kernel
theorem dX12_run_2 : decode cX12_run 2 = .ok (.putfield 1, 3) := by decide +kernel
theorem dX12_run_5 : decode cX12_run 5 = .ok (.aload_n 0, 1) := by decide +kernel
theorem dX12_run_6 : decode cX12_run 6 = .ok (.iconst 1, 1) := by decide +kernel
theorem dX12_run_7 : decode cX12_run 7 = .ok (.iload_n 1, 1) := by decide +kernel
theorem dX12_run_8 : decode cX12_run 8 = .ok (.iconst 0, 1) := by decide +kernel
theorem dX12_run_9 : decode cX12_run 9 = .ok (.iconst 0, 1) := by decide +kernel
theorem dX12_run_10 : decode cX12_run 10 = .ok (.aload_n 0, 1) := by decide +kernel
theorem dX12_run_11 : decode cX12_run 11 = .ok (.iload_n 1, 1) := by decide +kernel
theorem dX12_run_12 : decode cX12_run 12 = .ok (.invokevirtual 273, 3) := by decide +kernel
theorem dX12_run_15 : decode cX12_run 15 = .ok (.invokevirtual 345, 3) := by decide +kernel
theorem dX12_run_18 : decode cX12_run 18 = .ok (.ireturn, 1) := by decide +kernel
theorem dX12_top_0 : decode cX12_top 0 = .ok (.aload_n 0, 1) := by decide +kernel
theorem dX12_top_1 : decode cX12_top 1 = .ok (.iconst 0, 1) := by decide +kernel
theorem dX12_top_2 : decode cX12_top 2 = .ok (.putfield 1, 3) := by decide +kernel
theorem dX12_top_5 : decode cX12_top 5 = .ok (.aload_n 0, 1) := by decide +kernel
theorem dX12_top_6 : decode cX12_top 6 = .ok (.iconst 2, 1) := by decide +kernel
theorem dX12_top_7 : decode cX12_top 7 = .ok (.iconst 0, 1) := by decide +kernel
theorem dX12_top_8 : decode cX12_top 8 = .ok (.iconst 0, 1) := by decide +kernel
theorem dX12_top_9 : decode cX12_top 9 = .ok (.iconst 0, 1) := by decide +kernel
theorem dX12_top_10 : decode cX12_top 10 = .ok (.iconst 1, 1) := by decide +kernel
theorem dX12_top_11 : decode cX12_top 11 = .ok (.invokevirtual 345, 3) := by decide +kernel
theorem dX12_top_14 : decode cX12_top 14 = .ok (.ireturn, 1) := by decide +kernel
theorem dX12_tip_0 : decode cX12_tip 0 = .ok (.aload_n 0, 1) := by decide +kernel
theorem dX12_tip_1 : decode cX12_tip 1 = .ok (.iconst 0, 1) := by decide +kernel
theorem dX12_tip_2 : decode cX12_tip 2 = .ok (.putfield 1, 3) := by decide +kernel
theorem dX12_tip_5 : decode cX12_tip 5 = .ok (.aload_n 0, 1) := by decide +kernel
theorem dX12_tip_6 : decode cX12_tip 6 = .ok (.iconst 3, 1) := by decide +kernel
theorem dX12_tip_7 : decode cX12_tip 7 = .ok (.iload_n 1, 1) := by decide +kernel
theorem dX12_tip_8 : decode cX12_tip 8 = .ok (.iload_n 2, 1) := by decide +kernel
theorem dX12_tip_9 : decode cX12_tip 9 = .ok (.iload_n 3, 1) := by decide +kernel
theorem dX12_tip_10 : decode cX12_tip 10 = .ok (.aload_n 0, 1) := by decide +kernel
theorem dX12_tip_11 : decode cX12_tip 11 = .ok (.iload_n 1, 1) := by decide +kernel
theorem dX12_tip_12 : decode cX12_tip 12 = .ok (.invokevirtual 266, 3) := by decide +kernel
theorem dX12_tip_15 : decode cX12_tip 15 = .ok (.ifCond .eq 26, 3) := by decide +kernel
theorem dX12_tip_18 : decode cX12_tip 18 = .ok (.aload_n 0, 1) := by decide +kernel
theorem dX12_tip_19 : decode cX12_tip 19 = .ok (.iload_n 2, 1) := by decide +kernel
theorem dX12_tip_20 : decode cX12_tip 20 = .ok (.invokevirtual 266, 3) := by decide +kernel
theorem dX12_tip_23 : decode cX12_tip 23 = .ok (.ifCond .eq 18, 3) := by decide +kernel
theorem dX12_tip_26 : decode cX12_tip 26 = .ok (.iload_n 3, 1) := by decide +kernel
theorem dX12_tip_27 : decode cX12_tip 27 = .ok (.iconst 1, 1) := by decide +kernel
theorem dX12_tip_28 : decode cX12_tip 28 = .ok (.sipush 400, 3) := by decide +kernel
theorem dX12_tip_31 : decode cX12_tip 31 = .ok (.invokestatic 75, 3) := by decide +kernel
theorem dX12_tip_34 : decode cX12_tip 34 = .ok (.ifCond .eq 7, 3) := by decide +kernel
theorem dX12_tip_37 : decode cX12_tip 37 = .ok (.iconst 1, 1) := by decide +kernel
theorem dX12_tip_38 : decode cX12_tip 38 = .ok (.goto 4, 3) := by decide +kernel
theorem dX12_tip_41 : decode cX12_tip 41 = .ok (.iconst 0, 1) := by decide +kernel
theorem dX12_tip_42 : decode cX12_tip 42 = .ok (.invokevirtual 345, 3) := by decide +kernel
theorem dX12_tip_45 : decode cX12_tip 45 = .ok (.ireturn, 1) := by decide +kernel
theorem dX12_undo_0 : decode cX12_undo 0 = .ok (.aload_n 0, 1) := by decide +kernel
theorem dX12_undo_1 : decode cX12_undo 1 = .ok (.iconst 0, 1) := by decide +kernel
theorem dX12_undo_2 : decode cX12_undo 2 = .ok (.putfield 1, 3) := by decide +kernel
theorem dX12_undo_5 : decode cX12_undo 5 = .ok (.aload_n 0, 1) := by decide +kernel
theorem dX12_undo_6 : decode cX12_undo 6 = .ok (.getfield 245, 3) := by decide +kernel
theorem dX12_undo_9 : decode cX12_undo 9 = .ok (.ifCond .ne 5, 3) := by decide +kernel
theorem dX12_undo_12 : decode cX12_undo 12 = .ok (.iconst (-1), 1) := by decide +kernel
theorem dX12_undo_13 : decode cX12_undo 13 = .ok (.ireturn, 1) := by decide +kernel
theorem dX12_undo_14 : decode cX12_undo 14 = .ok (.aload_n 0, 1) := by decide +kernel
theorem dX12_undo_15 : decode cX12_undo 15 = .ok (.dup, 1) := by decide +kernel
theorem dX12_undo_16 : decode cX12_undo 16 = .ok (.getfield 245, 3) := by decide +kernel
theorem dX12_undo_19 : decode cX12_undo 19 = .ok (.iconst 1, 1) := by decide +kernel
theorem dX12_undo_20 : decode cX12_undo 20 = .ok (.isub, 1) := by decide +kernel
theorem dX12_undo_21 : decode cX12_undo 21 = .ok (.putfield 245, 3) := by decide +kernel
theorem dX12_undo_24 : decode cX12_undo 24 = .ok (.iconst 0, 1) := by decide +kernel
theorem dX12_undo_25 : decode cX12_undo 25 = .ok (.istore_n 1, 1) := by decide +kernel
theorem dX12_undo_26 : decode cX12_undo 26 = .ok (.iload_n 1, 1) := by decide +kernel
theorem dX12_undo_27 : decode cX12_undo 27 = .ok (.sipush 863, 3) := by decide +kernel
theorem dX12_undo_30 : decode cX12_undo 30 = .ok (.if_icmp .ge 34, 3) := by decide +kernel
theorem dX12_undo_33 : decode cX12_undo 33 = .ok (.aload_n 0, 1) := by decide +kernel
theorem dX12_undo_34 : decode cX12_undo 34 = .ok (.getfield 98, 3) := by decide +kernel
theorem dX12_undo_37 : decode cX12_undo 37 = .ok (.sipush 815, 3) := by decide +kernel
theorem dX12_undo_40 : decode cX12_undo 40 = .ok (.iload_n 1, 1) := by decide +kernel
theorem dX12_undo_41 : decode cX12_undo 41 = .ok (.iadd, 1) := by decide +kernel
theorem dX12_undo_42 : decode cX12_undo 42 = .ok (.aload_n 0, 1) := by decide +kernel
theorem dX12_undo_43 : decode cX12_undo 43 = .ok (.getfield 107, 3) := by decide +kernel
theorem dX12_undo_46 : decode cX12_undo 46 = .ok (.sipush 863, 3) := by decide +kernel
theorem dX12_undo_49 : decode cX12_undo 49 = .ok (.aload_n 0, 1) := by decide +kernel
theorem dX12_undo_50 : decode cX12_undo 50 = .ok (.getfield 245, 3) := by decide +kernel
theorem dX12_undo_53 : decode cX12_undo 53 = .ok (.imul, 1) := by decide +kernel
theorem dX12_undo_54 : decode cX12_undo 54 = .ok (.iload_n 1, 1) := by decide +kernel
theorem dX12_undo_55 : decode cX12_undo 55 = .ok (.iadd, 1) := by decide +kernel
theorem dX12_undo_56 : decode cX12_undo 56 = .ok (.iaload, 1) := by decide +kernel
theorem dX12_undo_57 : decode cX12_undo 57 = .ok (.iastore, 1) := by decide +kernel
theorem dX12_undo_58 : decode cX12_undo 58 = .ok (.iinc 1 1, 3) := by decide +kernel
theorem dX12_undo_61 : decode cX12_undo 61 = .ok (.goto (-35), 3) := by decide +kernel
theorem dX12_undo_64 : decode cX12_undo 64 = .ok (.aload_n 0, 1) := by decide +kernel
theorem dX12_undo_65 : decode cX12_undo 65 = .ok (.getfield 245, 3) := by decide +kernel
theorem dX12_undo_68 : decode cX12_undo 68 = .ok (.ireturn, 1) := by decide +kernel
theorem dX12_oneYear_0 : decode cX12_oneYear 0 = .ok (.iconst 0, 1) := by decide +kernel
theorem dX12_oneYear_1 : decode cX12_oneYear 1 = .ok (.istore_n 1, 1) := by decide +kernel
theorem dX12_oneYear_2 : decode cX12_oneYear 2 = .ok (.iload_n 1, 1) := by decide +kernel
theorem dX12_oneYear_3 : decode cX12_oneYear 3 = .ok (.aload_n 0, 1) := by decide +kernel
theorem dX12_oneYear_4 : decode cX12_oneYear 4 = .ok (.getfield 98, 3) := by decide +kernel
theorem dX12_oneYear_7 : decode cX12_oneYear 7 = .ok (.iconst 1, 1) := by decide +kernel
theorem dX12_oneYear_8 : decode cX12_oneYear 8 = .ok (.iaload, 1) := by decide +kernel
theorem dX12_oneYear_9 : decode cX12_oneYear 9 = .ok (.if_icmp .ge 67, 3) := by decide +kernel
theorem dX12_oneYear_12 : decode cX12_oneYear 12 = .ok (.aload_n 0, 1) := by decide +kernel
theorem dX12_oneYear_13 : decode cX12_oneYear 13 = .ok (.iload_n 1, 1) := by decide +kernel
theorem dX12_oneYear_14 : decode cX12_oneYear 14 = .ok (.invokevirtual 257, 3) := by decide +kernel
theorem dX12_oneYear_17 : decode cX12_oneYear 17 = .ok (.aload_n 0, 1) := by decide +kernel
theorem dX12_oneYear_18 : decode cX12_oneYear 18 = .ok (.getfield 98, 3) := by decide +kernel
theorem dX12_oneYear_21 : decode cX12_oneYear 21 = .ok (.iconst 2, 1) := by decide +kernel
theorem dX12_oneYear_22 : decode cX12_oneYear 22 = .ok (.iaload, 1) := by decide +kernel
theorem dX12_oneYear_23 : decode cX12_oneYear 23 = .ok (.imul, 1) := by decide +kernel
theorem dX12_oneYear_24 : decode cX12_oneYear 24 = .ok (.bipush 100, 2) := by decide +kernel
theorem dX12_oneYear_26 : decode cX12_oneYear 26 = .ok (.idiv, 1) := by decide +kernel
theorem dX12_oneYear_27 : decode cX12_oneYear 27 = .ok (.istore_n 2, 1) := by decide +kernel
theorem dX12_oneYear_28 : decode cX12_oneYear 28 = .ok (.aload_n 0, 1) := by decide +kernel
theorem dX12_oneYear_29 : decode cX12_oneYear 29 = .ok (.aload_n 0, 1) := by decide +kernel
theorem dX12_oneYear_30 : decode cX12_oneYear 30 = .ok (.getfield 98, 3) := by decide +kernel
theorem dX12_oneYear_33 : decode cX12_oneYear 33 = .ok (.aload_n 0, 1) := by decide +kernel
theorem dX12_oneYear_34 : decode cX12_oneYear 34 = .ok (.iload_n 1, 1) := by decide +kernel
theorem dX12_oneYear_35 : decode cX12_oneYear 35 = .ok (.invokevirtual 251, 3) := by decide +kernel
theorem dX12_oneYear_38 : decode cX12_oneYear 38 = .ok (.iload_n 2, 1) := by decide +kernel
theorem dX12_oneYear_39 : decode cX12_oneYear 39 = .ok (.aload_n 0, 1) := by decide +kernel
theorem dX12_oneYear_40 : decode cX12_oneYear 40 = .ok (.getfield 142, 3) := by decide +kernel
theorem dX12_oneYear_43 : decode cX12_oneYear 43 = .ok (.iconst 0, 1) := by decide +kernel
theorem dX12_oneYear_44 : decode cX12_oneYear 44 = .ok (.invokevirtual 321, 3) := by decide +kernel
theorem dX12_oneYear_47 : decode cX12_oneYear 47 = .ok (.aload_n 0, 1) := by decide +kernel
theorem dX12_oneYear_48 : decode cX12_oneYear 48 = .ok (.getfield 98, 3) := by decide +kernel
theorem dX12_oneYear_51 : decode cX12_oneYear 51 = .ok (.sipush 817, 3) := by decide +kernel
theorem dX12_oneYear_54 : decode cX12_oneYear 54 = .ok (.dup2, 1) := by decide +kernel
theorem dX12_oneYear_55 : decode cX12_oneYear 55 = .ok (.iaload, 1) := by decide +kernel
theorem dX12_oneYear_56 : decode cX12_oneYear 56 = .ok (.iload_n 2, 1) := by decide +kernel
theorem dX12_oneYear_57 : decode cX12_oneYear 57 = .ok (.iadd, 1) := by decide +kernel
theorem dX12_oneYear_58 : decode cX12_oneYear 58 = .ok (.iastore, 1) := by decide +kernel
theorem dX12_oneYear_59 : decode cX12_oneYear 59 = .ok (.aload_n 0, 1) := by decide +kernel
theorem dX12_oneYear_60 : decode cX12_oneYear 60 = .ok (.getfield 98, 3) := by decide +kernel
theorem dX12_oneYear_63 : decode cX12_oneYear 63 = .ok (.sipush 858, 3) := by decide +kernel
theorem dX12_oneYear_66 : decode cX12_oneYear 66 = .ok (.iload_n 1, 1) := by decide +kernel
theorem dX12_oneYear_67 : decode cX12_oneYear 67 = .ok (.iadd, 1) := by decide +kernel
theorem dX12_oneYear_68 : decode cX12_oneYear 68 = .ok (.iconst 0, 1) := by decide +kernel
theorem dX12_oneYear_69 : decode cX12_oneYear 69 = .ok (.iastore, 1) := by decide +kernel
theorem dX12_oneYear_70 : decode cX12_oneYear 70 = .ok (.iinc 1 1, 3) := by decide +kernel
theorem dX12_oneYear_73 : decode cX12_oneYear 73 = .ok (.goto (-71), 3) := by decide +kernel
theorem dX12_oneYear_76 : decode cX12_oneYear 76 = .ok (.aload_n 0, 1) := by decide +kernel
theorem dX12_oneYear_77 : decode cX12_oneYear 77 = .ok (.getfield 98, 3) := by decide +kernel
theorem dX12_oneYear_80 : decode cX12_oneYear 80 = .ok (.sipush 815, 3) := by decide +kernel
theorem dX12_oneYear_83 : decode cX12_oneYear 83 = .ok (.dup2, 1) := by decide +kernel
theorem dX12_oneYear_84 : decode cX12_oneYear 84 = .ok (.iaload, 1) := by decide +kernel
theorem dX12_oneYear_85 : decode cX12_oneYear 85 = .ok (.iconst 1, 1) := by decide +kernel
theorem dX12_oneYear_86 : decode cX12_oneYear 86 = .ok (.iadd, 1) := by decide +kernel
theorem dX12_oneYear_87 : decode cX12_oneYear 87 = .ok (.iastore, 1) := by decide +kernel
theorem dX12_oneYear_88 : decode cX12_oneYear 88 = .ok (.return_, 1) := by decide +kernel
theorem dX12_passYears_0 : decode cX12_passYears 0 = .ok (.iload_n 1, 1) := by decide +kernel
theorem dX12_passYears_1 : decode cX12_passYears 1 = .ok (.bipush 39, 2) := by decide +kernel
theorem dX12_passYears_3 : decode cX12_passYears 3 = .ok (.aload_n 0, 1) := by decide +kernel
theorem dX12_passYears_4 : decode cX12_passYears 4 = .ok (.getfield 98, 3) := by decide +kernel
theorem dX12_passYears_7 : decode cX12_passYears 7 = .ok (.sipush 815, 3) := by decide +kernel
theorem dX12_passYears_10 : decode cX12_passYears 10 = .ok (.iaload, 1) := by decide +kernel
theorem dX12_passYears_11 : decode cX12_passYears 11 = .ok (.isub, 1) := by decide +kernel
theorem dX12_passYears_12 : decode cX12_passYears 12 = .ok (.invokestatic 349, 3) := by decide +kernel
theorem dX12_passYears_15 : decode cX12_passYears 15 = .ok (.istore_n 2, 1) := by decide +kernel
theorem dX12_passYears_16 : decode cX12_passYears 16 = .ok (.iconst 0, 1) := by decide +kernel
theorem dX12_passYears_17 : decode cX12_passYears 17 = .ok (.istore_n 3, 1) := by decide +kernel
theorem dX12_passYears_18 : decode cX12_passYears 18 = .ok (.iload_n 3, 1) := by decide +kernel
theorem dX12_passYears_19 : decode cX12_passYears 19 = .ok (.iload_n 2, 1) := by decide +kernel
theorem dX12_passYears_20 : decode cX12_passYears 20 = .ok (.if_icmp .ge 13, 3) := by decide +kernel
theorem dX12_passYears_23 : decode cX12_passYears 23 = .ok (.aload_n 0, 1) := by decide +kernel
theorem dX12_passYears_24 : decode cX12_passYears 24 = .ok (.invokevirtual 352, 3) := by decide +kernel
theorem dX12_passYears_27 : decode cX12_passYears 27 = .ok (.iinc 3 1, 3) := by decide +kernel
theorem dX12_passYears_30 : decode cX12_passYears 30 = .ok (.goto (-12), 3) := by decide +kernel
theorem dX12_passYears_33 : decode cX12_passYears 33 = .ok (.iload_n 2, 1) := by decide +kernel
theorem dX12_passYears_34 : decode cX12_passYears 34 = .ok (.ireturn, 1) := by decide +kernel
theorem dX12_years_0 : decode cX12_years 0 = .ok (.aload_n 0, 1) := by decide +kernel
theorem dX12_years_1 : decode cX12_years 1 = .ok (.iconst 0, 1) := by decide +kernel
theorem dX12_years_2 : decode cX12_years 2 = .ok (.putfield 1, 3) := by decide +kernel
theorem dX12_years_5 : decode cX12_years 5 = .ok (.iload_n 1, 1) := by decide +kernel
theorem dX12_years_6 : decode cX12_years 6 = .ok (.iconst 1, 1) := by decide +kernel
theorem dX12_years_7 : decode cX12_years 7 = .ok (.bipush 39, 2) := by decide +kernel
theorem dX12_years_9 : decode cX12_years 9 = .ok (.invokestatic 75, 3) := by decide +kernel
theorem dX12_years_12 : decode cX12_years 12 = .ok (.ifCond .ne 5, 3) := by decide +kernel
theorem dX12_years_15 : decode cX12_years 15 = .ok (.iconst (-1), 1) := by decide +kernel
theorem dX12_years_16 : decode cX12_years 16 = .ok (.ireturn, 1) := by decide +kernel
theorem dX12_years_17 : decode cX12_years 17 = .ok (.aload_n 0, 1) := by decide +kernel
theorem dX12_years_18 : decode cX12_years 18 = .ok (.getfield 98, 3) := by decide +kernel
theorem dX12_years_21 : decode cX12_years 21 = .ok (.sipush 815, 3) := by decide +kernel
theorem dX12_years_24 : decode cX12_years 24 = .ok (.iaload, 1) := by decide +kernel
theorem dX12_years_25 : decode cX12_years 25 = .ok (.bipush 39, 2) := by decide +kernel
theorem dX12_years_27 : decode cX12_years 27 = .ok (.if_icmp .ne 5, 3) := by decide +kernel
theorem dX12_years_30 : decode cX12_years 30 = .ok (.iconst 0, 1) := by decide +kernel
theorem dX12_years_31 : decode cX12_years 31 = .ok (.ireturn, 1) := by decide +kernel
theorem dX12_years_32 : decode cX12_years 32 = .ok (.aload_n 0, 1) := by decide +kernel
theorem dX12_years_33 : decode cX12_years 33 = .ok (.invokevirtual 338, 3) := by decide +kernel
theorem dX12_years_36 : decode cX12_years 36 = .ok (.aload_n 0, 1) := by decide +kernel
theorem dX12_years_37 : decode cX12_years 37 = .ok (.iload_n 1, 1) := by decide +kernel
theorem dX12_years_38 : decode cX12_years 38 = .ok (.invokevirtual 355, 3) := by decide +kernel
theorem dX12_years_41 : decode cX12_years 41 = .ok (.ireturn, 1) := by decide +kernel
theorem dX12_layAside_0 : decode cX12_layAside 0 = .ok (.iconst 0, 1) := by decide +kernel
theorem dX12_layAside_1 : decode cX12_layAside 1 = .ok (.istore_n 1, 1) := by decide +kernel
theorem dX12_layAside_2 : decode cX12_layAside 2 = .ok (.iload_n 1, 1) := by decide +kernel
theorem dX12_layAside_3 : decode cX12_layAside 3 = .ok (.sipush 863, 3) := by decide +kernel
theorem dX12_layAside_6 : decode cX12_layAside 6 = .ok (.if_icmp .ge 25, 3) := by decide +kernel
theorem dX12_layAside_9 : decode cX12_layAside 9 = .ok (.aload_n 0, 1) := by decide +kernel
theorem dX12_layAside_10 : decode cX12_layAside 10 = .ok (.getfield 110, 3) := by decide +kernel
theorem dX12_layAside_13 : decode cX12_layAside 13 = .ok (.iload_n 1, 1) := by decide +kernel
theorem dX12_layAside_14 : decode cX12_layAside 14 = .ok (.aload_n 0, 1) := by decide +kernel
theorem dX12_layAside_15 : decode cX12_layAside 15 = .ok (.getfield 98, 3) := by decide +kernel
theorem dX12_layAside_18 : decode cX12_layAside 18 = .ok (.sipush 815, 3) := by decide +kernel
theorem dX12_layAside_21 : decode cX12_layAside 21 = .ok (.iload_n 1, 1) := by decide +kernel
theorem dX12_layAside_22 : decode cX12_layAside 22 = .ok (.iadd, 1) := by decide +kernel
theorem dX12_layAside_23 : decode cX12_layAside 23 = .ok (.iaload, 1) := by decide +kernel
theorem dX12_layAside_24 : decode cX12_layAside 24 = .ok (.iastore, 1) := by decide +kernel
theorem dX12_layAside_25 : decode cX12_layAside 25 = .ok (.iinc 1 1, 3) := by decide +kernel
theorem dX12_layAside_28 : decode cX12_layAside 28 = .ok (.goto (-26), 3) := by decide +kernel
theorem dX12_layAside_31 : decode cX12_layAside 31 = .ok (.return_, 1) := by decide +kernel
theorem dX12_takeBack_0 : decode cX12_takeBack 0 = .ok (.iconst 0, 1) := by decide +kernel
theorem dX12_takeBack_1 : decode cX12_takeBack 1 = .ok (.istore_n 1, 1) := by decide +kernel
theorem dX12_takeBack_2 : decode cX12_takeBack 2 = .ok (.iload_n 1, 1) := by decide +kernel
theorem dX12_takeBack_3 : decode cX12_takeBack 3 = .ok (.sipush 863, 3) := by decide +kernel
theorem dX12_takeBack_6 : decode cX12_takeBack 6 = .ok (.if_icmp .ge 25, 3) := by decide +kernel
theorem dX12_takeBack_9 : decode cX12_takeBack 9 = .ok (.aload_n 0, 1) := by decide +kernel
theorem dX12_takeBack_10 : decode cX12_takeBack 10 = .ok (.getfield 98, 3) := by decide +kernel
theorem dX12_takeBack_13 : decode cX12_takeBack 13 = .ok (.sipush 815, 3) := by decide +kernel
theorem dX12_takeBack_16 : decode cX12_takeBack 16 = .ok (.iload_n 1, 1) := by decide +kernel
theorem dX12_takeBack_17 : decode cX12_takeBack 17 = .ok (.iadd, 1) := by decide +kernel
theorem dX12_takeBack_18 : decode cX12_takeBack 18 = .ok (.aload_n 0, 1) := by decide +kernel
theorem dX12_takeBack_19 : decode cX12_takeBack 19 = .ok (.getfield 110, 3) := by decide +kernel
theorem dX12_takeBack_22 : decode cX12_takeBack 22 = .ok (.iload_n 1, 1) := by decide +kernel
theorem dX12_takeBack_23 : decode cX12_takeBack 23 = .ok (.iaload, 1) := by decide +kernel
theorem dX12_takeBack_24 : decode cX12_takeBack 24 = .ok (.iastore, 1) := by decide +kernel
theorem dX12_takeBack_25 : decode cX12_takeBack 25 = .ok (.iinc 1 1, 3) := by decide +kernel
theorem dX12_takeBack_28 : decode cX12_takeBack 28 = .ok (.goto (-26), 3) := by decide +kernel
theorem dX12_takeBack_31 : decode cX12_takeBack 31 = .ok (.return_, 1) := by decide +kernel
theorem dX12_agesOfPortion_0 : decode cX12_agesOfPortion 0 = .ok (.aload_n 0, 1) := by decide +kernel
theorem dX12_agesOfPortion_1 : decode cX12_agesOfPortion 1 = .ok (.aload_n 0, 1) := by decide +kernel
theorem dX12_agesOfPortion_2 : decode cX12_agesOfPortion 2 = .ok (.getfield 98, 3) := by decide +kernel
theorem dX12_agesOfPortion_5 : decode cX12_agesOfPortion 5 = .ok (.aload_n 0, 1) := by decide +kernel
theorem dX12_agesOfPortion_6 : decode cX12_agesOfPortion 6 = .ok (.iload_n 1, 1) := by decide +kernel
theorem dX12_agesOfPortion_7 : decode cX12_agesOfPortion 7 = .ok (.invokevirtual 251, 3) := by decide +kernel
theorem dX12_agesOfPortion_10 : decode cX12_agesOfPortion 10 = .ok (.iload_n 2, 1) := by decide +kernel
theorem dX12_agesOfPortion_11 : decode cX12_agesOfPortion 11 = .ok (.invokevirtual 307, 3) := by decide +kernel
theorem dX12_agesOfPortion_14 : decode cX12_agesOfPortion 14 = .ok (.iconst 0, 1) := by decide +kernel
theorem dX12_agesOfPortion_15 : decode cX12_agesOfPortion 15 = .ok (.istore_n 3, 1) := by decide +kernel
theorem dX12_agesOfPortion_16 : decode cX12_agesOfPortion 16 = .ok (.iconst 0, 1) := by decide +kernel
theorem dX12_agesOfPortion_17 : decode cX12_agesOfPortion 17 = .ok (.istore 4, 2) := by decide +kernel
theorem dX12_agesOfPortion_19 : decode cX12_agesOfPortion 19 = .ok (.iload 4, 2) := by decide +kernel
theorem dX12_agesOfPortion_21 : decode cX12_agesOfPortion 21 = .ok (.bipush 40, 2) := by decide +kernel
theorem dX12_agesOfPortion_23 : decode cX12_agesOfPortion 23 = .ok (.if_icmp .ge 31, 3) := by decide +kernel
theorem dX12_agesOfPortion_26 : decode cX12_agesOfPortion 26 = .ok (.iload_n 3, 1) := by decide +kernel
theorem dX12_agesOfPortion_27 : decode cX12_agesOfPortion 27 = .ok (.aload_n 0, 1) := by decide +kernel
theorem dX12_agesOfPortion_28 : decode cX12_agesOfPortion 28 = .ok (.getfield 130, 3) := by decide +kernel
theorem dX12_agesOfPortion_31 : decode cX12_agesOfPortion 31 = .ok (.iload 4, 2) := by decide +kernel
theorem dX12_agesOfPortion_33 : decode cX12_agesOfPortion 33 = .ok (.iaload, 1) := by decide +kernel
theorem dX12_agesOfPortion_34 : decode cX12_agesOfPortion 34 = .ok (.aload_n 0, 1) := by decide +kernel
theorem dX12_agesOfPortion_35 : decode cX12_agesOfPortion 35 = .ok (.getfield 98, 3) := by decide +kernel
theorem dX12_agesOfPortion_38 : decode cX12_agesOfPortion 38 = .ok (.sipush 815, 3) := by decide +kernel
theorem dX12_agesOfPortion_41 : decode cX12_agesOfPortion 41 = .ok (.iaload, 1) := by decide +kernel
theorem dX12_agesOfPortion_42 : decode cX12_agesOfPortion 42 = .ok (.iload 4, 2) := by decide +kernel
theorem dX12_agesOfPortion_44 : decode cX12_agesOfPortion 44 = .ok (.isub, 1) := by decide +kernel
theorem dX12_agesOfPortion_45 : decode cX12_agesOfPortion 45 = .ok (.imul, 1) := by decide +kernel
theorem dX12_agesOfPortion_46 : decode cX12_agesOfPortion 46 = .ok (.iadd, 1) := by decide +kernel
theorem dX12_agesOfPortion_47 : decode cX12_agesOfPortion 47 = .ok (.istore_n 3, 1) := by decide +kernel
theorem dX12_agesOfPortion_48 : decode cX12_agesOfPortion 48 = .ok (.iinc 4 1, 3) := by decide +kernel
theorem dX12_agesOfPortion_51 : decode cX12_agesOfPortion 51 = .ok (.goto (-32), 3) := by decide +kernel
theorem dX12_agesOfPortion_54 : decode cX12_agesOfPortion 54 = .ok (.iload_n 3, 1) := by decide +kernel
theorem dX12_agesOfPortion_55 : decode cX12_agesOfPortion 55 = .ok (.ireturn, 1) := by decide +kernel
theorem dX12_blendFrom_0 : decode cX12_blendFrom 0 = .ok (.iload_n 1, 1) := by decide +kernel
theorem dX12_blendFrom_1 : decode cX12_blendFrom 1 = .ok (.iload_n 3, 1) := by decide +kernel
theorem dX12_blendFrom_2 : decode cX12_blendFrom 2 = .ok (.if_icmp .ne 69, 3) := by decide +kernel
theorem dX12_blendFrom_5 : decode cX12_blendFrom 5 = .ok (.iload 5, 2) := by decide +kernel
theorem dX12_blendFrom_7 : decode cX12_blendFrom 7 = .ok (.ifCond .ge 9, 3) := by decide +kernel
theorem dX12_blendFrom_10 : decode cX12_blendFrom 10 = .ok (.iload 5, 2) := by decide +kernel
theorem dX12_blendFrom_12 : decode cX12_blendFrom 12 = .ok (.ineg, 1) := by decide +kernel
theorem dX12_blendFrom_13 : decode cX12_blendFrom 13 = .ok (.goto 5, 3) := by decide +kernel
theorem dX12_blendFrom_16 : decode cX12_blendFrom 16 = .ok (.iload 5, 2) := by decide +kernel
theorem dX12_blendFrom_18 : decode cX12_blendFrom 18 = .ok (.istore 6, 2) := by decide +kernel
theorem dX12_blendFrom_20 : decode cX12_blendFrom 20 = .ok (.iload 4, 2) := by decide +kernel
theorem dX12_blendFrom_22 : decode cX12_blendFrom 22 = .ok (.ifCond .gt 12, 3) := by decide +kernel
theorem dX12_blendFrom_25 : decode cX12_blendFrom 25 = .ok (.iload 6, 2) := by decide +kernel
theorem dX12_blendFrom_27 : decode cX12_blendFrom 27 = .ok (.aload_n 0, 1) := by decide +kernel
theorem dX12_blendFrom_28 : decode cX12_blendFrom 28 = .ok (.getfield 358, 3) := by decide +kernel
theorem dX12_blendFrom_31 : decode cX12_blendFrom 31 = .ok (.if_icmp .lt 4, 3) := by decide +kernel
theorem dX12_blendFrom_34 : decode cX12_blendFrom 34 = .ok (.return_, 1) := by decide +kernel
theorem dX12_blendFrom_35 : decode cX12_blendFrom 35 = .ok (.aload_n 0, 1) := by decide +kernel
theorem dX12_blendFrom_36 : decode cX12_blendFrom 36 = .ok (.iload 6, 2) := by decide +kernel
theorem dX12_blendFrom_38 : decode cX12_blendFrom 38 = .ok (.putfield 358, 3) := by decide +kernel
theorem dX12_blendFrom_41 : decode cX12_blendFrom 41 = .ok (.iconst 0, 1) := by decide +kernel
theorem dX12_blendFrom_42 : decode cX12_blendFrom 42 = .ok (.istore 7, 2) := by decide +kernel
theorem dX12_blendFrom_44 : decode cX12_blendFrom 44 = .ok (.iload 7, 2) := by decide +kernel
theorem dX12_blendFrom_46 : decode cX12_blendFrom 46 = .ok (.iload_n 3, 1) := by decide +kernel
theorem dX12_blendFrom_47 : decode cX12_blendFrom 47 = .ok (.if_icmp .ge 23, 3) := by decide +kernel
theorem dX12_blendFrom_50 : decode cX12_blendFrom 50 = .ok (.aload_n 0, 1) := by decide +kernel
theorem dX12_blendFrom_51 : decode cX12_blendFrom 51 = .ok (.getfield 148, 3) := by decide +kernel
theorem dX12_blendFrom_54 : decode cX12_blendFrom 54 = .ok (.iload 7, 2) := by decide +kernel
theorem dX12_blendFrom_56 : decode cX12_blendFrom 56 = .ok (.aload_n 0, 1) := by decide +kernel
theorem dX12_blendFrom_57 : decode cX12_blendFrom 57 = .ok (.getfield 151, 3) := by decide +kernel
theorem dX12_blendFrom_60 : decode cX12_blendFrom 60 = .ok (.iload 7, 2) := by decide +kernel
theorem dX12_blendFrom_62 : decode cX12_blendFrom 62 = .ok (.iaload, 1) := by decide +kernel
theorem dX12_blendFrom_63 : decode cX12_blendFrom 63 = .ok (.iastore, 1) := by decide +kernel
theorem dX12_blendFrom_64 : decode cX12_blendFrom 64 = .ok (.iinc 7 1, 3) := by decide +kernel
theorem dX12_blendFrom_67 : decode cX12_blendFrom 67 = .ok (.goto (-23), 3) := by decide +kernel
theorem dX12_blendFrom_70 : decode cX12_blendFrom 70 = .ok (.return_, 1) := by decide +kernel
theorem dX12_blendFrom_71 : decode cX12_blendFrom 71 = .ok (.iconst 0, 1) := by decide +kernel
theorem dX12_blendFrom_72 : decode cX12_blendFrom 72 = .ok (.istore 6, 2) := by decide +kernel
theorem dX12_blendFrom_74 : decode cX12_blendFrom 74 = .ok (.iload 6, 2) := by decide +kernel
theorem dX12_blendFrom_76 : decode cX12_blendFrom 76 = .ok (.iload 4, 2) := by decide +kernel
theorem dX12_blendFrom_78 : decode cX12_blendFrom 78 = .ok (.if_icmp .gt 58, 3) := by decide +kernel
theorem dX12_blendFrom_81 : decode cX12_blendFrom 81 = .ok (.iload 6, 2) := by decide +kernel
theorem dX12_blendFrom_83 : decode cX12_blendFrom 83 = .ok (.aload_n 0, 1) := by decide +kernel
theorem dX12_blendFrom_84 : decode cX12_blendFrom 84 = .ok (.iload_n 2, 1) := by decide +kernel
theorem dX12_blendFrom_85 : decode cX12_blendFrom 85 = .ok (.iload_n 1, 1) := by decide +kernel
theorem dX12_blendFrom_86 : decode cX12_blendFrom 86 = .ok (.iadd, 1) := by decide +kernel
theorem dX12_blendFrom_87 : decode cX12_blendFrom 87 = .ok (.invokevirtual 257, 3) := by decide +kernel
theorem dX12_blendFrom_90 : decode cX12_blendFrom 90 = .ok (.if_icmp .gt 46, 3) := by decide +kernel
theorem dX12_blendFrom_93 : decode cX12_blendFrom 93 = .ok (.aload_n 0, 1) := by decide +kernel
theorem dX12_blendFrom_94 : decode cX12_blendFrom 94 = .ok (.getfield 151, 3) := by decide +kernel
theorem dX12_blendFrom_97 : decode cX12_blendFrom 97 = .ok (.iload_n 1, 1) := by decide +kernel
theorem dX12_blendFrom_98 : decode cX12_blendFrom 98 = .ok (.iload 6, 2) := by decide +kernel
theorem dX12_blendFrom_100 : decode cX12_blendFrom 100 = .ok (.iastore, 1) := by decide +kernel
theorem dX12_blendFrom_101 : decode cX12_blendFrom 101 = .ok (.aload_n 0, 1) := by decide +kernel
theorem dX12_blendFrom_102 : decode cX12_blendFrom 102 = .ok (.iload_n 1, 1) := by decide +kernel
theorem dX12_blendFrom_103 : decode cX12_blendFrom 103 = .ok (.iconst 1, 1) := by decide +kernel
theorem dX12_blendFrom_104 : decode cX12_blendFrom 104 = .ok (.iadd, 1) := by decide +kernel
theorem dX12_blendFrom_105 : decode cX12_blendFrom 105 = .ok (.iload_n 2, 1) := by decide +kernel
theorem dX12_blendFrom_106 : decode cX12_blendFrom 106 = .ok (.iload_n 3, 1) := by decide +kernel
theorem dX12_blendFrom_107 : decode cX12_blendFrom 107 = .ok (.iload 4, 2) := by decide +kernel
theorem dX12_blendFrom_109 : decode cX12_blendFrom 109 = .ok (.iload 6, 2) := by decide +kernel
theorem dX12_blendFrom_111 : decode cX12_blendFrom 111 = .ok (.isub, 1) := by decide +kernel
theorem dX12_blendFrom_112 : decode cX12_blendFrom 112 = .ok (.iload 5, 2) := by decide +kernel
theorem dX12_blendFrom_114 : decode cX12_blendFrom 114 = .ok (.aload_n 0, 1) := by decide +kernel
theorem dX12_blendFrom_115 : decode cX12_blendFrom 115 = .ok (.getfield 145, 3) := by decide +kernel
theorem dX12_blendFrom_118 : decode cX12_blendFrom 118 = .ok (.bipush 21, 2) := by decide +kernel
theorem dX12_blendFrom_120 : decode cX12_blendFrom 120 = .ok (.iload_n 1, 1) := by decide +kernel
theorem dX12_blendFrom_121 : decode cX12_blendFrom 121 = .ok (.imul, 1) := by decide +kernel
theorem dX12_blendFrom_122 : decode cX12_blendFrom 122 = .ok (.iload 6, 2) := by decide +kernel
theorem dX12_blendFrom_124 : decode cX12_blendFrom 124 = .ok (.iadd, 1) := by decide +kernel
theorem dX12_blendFrom_125 : decode cX12_blendFrom 125 = .ok (.iaload, 1) := by decide +kernel
theorem dX12_blendFrom_126 : decode cX12_blendFrom 126 = .ok (.iadd, 1) := by decide +kernel
theorem dX12_blendFrom_127 : decode cX12_blendFrom 127 = .ok (.invokevirtual 361, 3) := by decide +kernel
theorem dX12_blendFrom_130 : decode cX12_blendFrom 130 = .ok (.iinc 6 1, 3) := by decide +kernel
theorem dX12_blendFrom_133 : decode cX12_blendFrom 133 = .ok (.goto (-59), 3) := by decide +kernel
theorem dX12_blendFrom_136 : decode cX12_blendFrom 136 = .ok (.return_, 1) := by decide +kernel
theorem dX12_blend_0 : decode cX12_blend 0 = .ok (.aload_n 0, 1) := by decide +kernel
theorem dX12_blend_1 : decode cX12_blend 1 = .ok (.iconst 0, 1) := by decide +kernel
theorem dX12_blend_2 : decode cX12_blend 2 = .ok (.putfield 1, 3) := by decide +kernel
theorem dX12_blend_5 : decode cX12_blend 5 = .ok (.aload_n 0, 1) := by decide +kernel
theorem dX12_blend_6 : decode cX12_blend 6 = .ok (.iload_n 1, 1) := by decide +kernel
theorem dX12_blend_7 : decode cX12_blend 7 = .ok (.invokevirtual 273, 3) := by decide +kernel
theorem dX12_blend_10 : decode cX12_blend 10 = .ok (.ifCond .eq 31, 3) := by decide +kernel
theorem dX12_blend_13 : decode cX12_blend 13 = .ok (.iload_n 2, 1) := by decide +kernel
theorem dX12_blend_14 : decode cX12_blend 14 = .ok (.iconst 1, 1) := by decide +kernel
theorem dX12_blend_15 : decode cX12_blend 15 = .ok (.bipush 20, 2) := by decide +kernel
theorem dX12_blend_17 : decode cX12_blend 17 = .ok (.invokestatic 75, 3) := by decide +kernel
theorem dX12_blend_20 : decode cX12_blend 20 = .ok (.ifCond .eq 21, 3) := by decide +kernel
theorem dX12_blend_23 : decode cX12_blend 23 = .ok (.aload_n 0, 1) := by decide +kernel
theorem dX12_blend_24 : decode cX12_blend 24 = .ok (.iload_n 3, 1) := by decide +kernel
theorem dX12_blend_25 : decode cX12_blend 25 = .ok (.invokevirtual 280, 3) := by decide +kernel
theorem dX12_blend_28 : decode cX12_blend 28 = .ok (.ifCond .eq 13, 3) := by decide +kernel
theorem dX12_blend_31 : decode cX12_blend 31 = .ok (.aload_n 0, 1) := by decide +kernel
theorem dX12_blend_32 : decode cX12_blend 32 = .ok (.iload_n 1, 1) := by decide +kernel
theorem dX12_blend_33 : decode cX12_blend 33 = .ok (.iconst 0, 1) := by decide +kernel
theorem dX12_blend_34 : decode cX12_blend 34 = .ok (.invokevirtual 276, 3) := by decide +kernel
theorem dX12_blend_37 : decode cX12_blend 37 = .ok (.iload_n 2, 1) := by decide +kernel
theorem dX12_blend_38 : decode cX12_blend 38 = .ok (.if_icmp .ge 5, 3) := by decide +kernel
theorem dX12_blend_41 : decode cX12_blend 41 = .ok (.iconst (-1), 1) := by decide +kernel
theorem dX12_blend_42 : decode cX12_blend 42 = .ok (.ireturn, 1) := by decide +kernel
theorem dX12_blend_43 : decode cX12_blend 43 = .ok (.aload_n 0, 1) := by decide +kernel
theorem dX12_blend_44 : decode cX12_blend 44 = .ok (.getfield 98, 3) := by decide +kernel
theorem dX12_blend_47 : decode cX12_blend 47 = .ok (.iload_n 1, 1) := by decide +kernel
theorem dX12_blend_48 : decode cX12_blend 48 = .ok (.invokestatic 202, 3) := by decide +kernel
theorem dX12_blend_51 : decode cX12_blend 51 = .ok (.istore 4, 2) := by decide +kernel
theorem dX12_blend_53 : decode cX12_blend 53 = .ok (.aload_n 0, 1) := by decide +kernel
theorem dX12_blend_54 : decode cX12_blend 54 = .ok (.getfield 98, 3) := by decide +kernel
theorem dX12_blend_57 : decode cX12_blend 57 = .ok (.iconst 5, 1) := by decide +kernel
theorem dX12_blend_58 : decode cX12_blend 58 = .ok (.iload_n 1, 1) := by decide +kernel
theorem dX12_blend_59 : decode cX12_blend 59 = .ok (.iadd, 1) := by decide +kernel
theorem dX12_blend_60 : decode cX12_blend 60 = .ok (.iaload, 1) := by decide +kernel
theorem dX12_blend_61 : decode cX12_blend 61 = .ok (.istore 5, 2) := by decide +kernel
theorem dX12_blend_63 : decode cX12_blend 63 = .ok (.iconst 0, 1) := by decide +kernel
theorem dX12_blend_64 : decode cX12_blend 64 = .ok (.istore 6, 2) := by decide +kernel
theorem dX12_blend_66 : decode cX12_blend 66 = .ok (.iload 6, 2) := by decide +kernel
theorem dX12_blend_68 : decode cX12_blend 68 = .ok (.iload 5, 2) := by decide +kernel
theorem dX12_blend_70 : decode cX12_blend 70 = .ok (.if_icmp .ge 62, 3) := by decide +kernel
theorem dX12_blend_73 : decode cX12_blend 73 = .ok (.iconst 0, 1) := by decide +kernel
theorem dX12_blend_74 : decode cX12_blend 74 = .ok (.istore 7, 2) := by decide +kernel
theorem dX12_blend_76 : decode cX12_blend 76 = .ok (.iload 7, 2) := by decide +kernel
theorem dX12_blend_78 : decode cX12_blend 78 = .ok (.iload_n 2, 1) := by decide +kernel
theorem dX12_blend_79 : decode cX12_blend 79 = .ok (.if_icmp .gt 47, 3) := by decide +kernel
theorem dX12_blend_82 : decode cX12_blend 82 = .ok (.iload 7, 2) := by decide +kernel
theorem dX12_blend_84 : decode cX12_blend 84 = .ok (.aload_n 0, 1) := by decide +kernel
theorem dX12_blend_85 : decode cX12_blend 85 = .ok (.iload 4, 2) := by decide +kernel
theorem dX12_blend_87 : decode cX12_blend 87 = .ok (.iload 6, 2) := by decide +kernel
theorem dX12_blend_89 : decode cX12_blend 89 = .ok (.iadd, 1) := by decide +kernel
theorem dX12_blend_90 : decode cX12_blend 90 = .ok (.invokevirtual 257, 3) := by decide +kernel
theorem dX12_blend_93 : decode cX12_blend 93 = .ok (.if_icmp .gt 33, 3) := by decide +kernel
theorem dX12_blend_96 : decode cX12_blend 96 = .ok (.aload_n 0, 1) := by decide +kernel
theorem dX12_blend_97 : decode cX12_blend 97 = .ok (.getfield 145, 3) := by decide +kernel
theorem dX12_blend_100 : decode cX12_blend 100 = .ok (.bipush 21, 2) := by decide +kernel
theorem dX12_blend_102 : decode cX12_blend 102 = .ok (.iload 6, 2) := by decide +kernel
theorem dX12_blend_104 : decode cX12_blend 104 = .ok (.imul, 1) := by decide +kernel
theorem dX12_blend_105 : decode cX12_blend 105 = .ok (.iload 7, 2) := by decide +kernel
theorem dX12_blend_107 : decode cX12_blend 107 = .ok (.iadd, 1) := by decide +kernel
theorem dX12_blend_108 : decode cX12_blend 108 = .ok (.aload_n 0, 1) := by decide +kernel
theorem dX12_blend_109 : decode cX12_blend 109 = .ok (.iload 4, 2) := by decide +kernel
theorem dX12_blend_111 : decode cX12_blend 111 = .ok (.iload 6, 2) := by decide +kernel
theorem dX12_blend_113 : decode cX12_blend 113 = .ok (.iadd, 1) := by decide +kernel
theorem dX12_blend_114 : decode cX12_blend 114 = .ok (.iload 7, 2) := by decide +kernel
theorem dX12_blend_116 : decode cX12_blend 116 = .ok (.invokevirtual 365, 3) := by decide +kernel
theorem dX12_blend_119 : decode cX12_blend 119 = .ok (.iastore, 1) := by decide +kernel
theorem dX12_blend_120 : decode cX12_blend 120 = .ok (.iinc 7 1, 3) := by decide +kernel
theorem dX12_blend_123 : decode cX12_blend 123 = .ok (.goto (-47), 3) := by decide +kernel
theorem dX12_blend_126 : decode cX12_blend 126 = .ok (.iinc 6 1, 3) := by decide +kernel
theorem dX12_blend_129 : decode cX12_blend 129 = .ok (.goto (-63), 3) := by decide +kernel
theorem dX12_blend_132 : decode cX12_blend 132 = .ok (.aload_n 0, 1) := by decide +kernel
theorem dX12_blend_133 : decode cX12_blend 133 = .ok (.ldc_w 368, 3) := by decide +kernel
theorem dX12_blend_136 : decode cX12_blend 136 = .ok (.putfield 358, 3) := by decide +kernel
theorem dX12_blend_139 : decode cX12_blend 139 = .ok (.aload_n 0, 1) := by decide +kernel
theorem dX12_blend_140 : decode cX12_blend 140 = .ok (.iload 5, 2) := by decide +kernel
theorem dX12_blend_142 : decode cX12_blend 142 = .ok (.putfield 369, 3) := by decide +kernel
theorem dX12_blend_145 : decode cX12_blend 145 = .ok (.aload_n 0, 1) := by decide +kernel
theorem dX12_blend_146 : decode cX12_blend 146 = .ok (.iconst 0, 1) := by decide +kernel
theorem dX12_blend_147 : decode cX12_blend 147 = .ok (.iload 4, 2) := by decide +kernel
theorem dX12_blend_149 : decode cX12_blend 149 = .ok (.iload 5, 2) := by decide +kernel
theorem dX12_blend_151 : decode cX12_blend 151 = .ok (.iload_n 2, 1) := by decide +kernel
theorem dX12_blend_152 : decode cX12_blend 152 = .ok (.iload_n 2, 1) := by decide +kernel
theorem dX12_blend_153 : decode cX12_blend 153 = .ok (.ineg, 1) := by decide +kernel
theorem dX12_blend_154 : decode cX12_blend 154 = .ok (.iload_n 3, 1) := by decide +kernel
theorem dX12_blend_155 : decode cX12_blend 155 = .ok (.imul, 1) := by decide +kernel
theorem dX12_blend_156 : decode cX12_blend 156 = .ok (.invokevirtual 361, 3) := by decide +kernel
theorem dX12_blend_159 : decode cX12_blend 159 = .ok (.aload_n 0, 1) := by decide +kernel
theorem dX12_blend_160 : decode cX12_blend 160 = .ok (.getfield 358, 3) := by decide +kernel
theorem dX12_blend_163 : decode cX12_blend 163 = .ok (.ireturn, 1) := by decide +kernel
theorem dX12_blendAt_0 : decode cX12_blendAt 0 = .ok (.aload_n 0, 1) := by decide +kernel
theorem dX12_blendAt_1 : decode cX12_blendAt 1 = .ok (.iconst 0, 1) := by decide +kernel
theorem dX12_blendAt_2 : decode cX12_blendAt 2 = .ok (.putfield 1, 3) := by decide +kernel
theorem dX12_blendAt_5 : decode cX12_blendAt 5 = .ok (.iload_n 1, 1) := by decide +kernel
theorem dX12_blendAt_6 : decode cX12_blendAt 6 = .ok (.iconst 0, 1) := by decide +kernel
theorem dX12_blendAt_7 : decode cX12_blendAt 7 = .ok (.aload_n 0, 1) := by decide +kernel
theorem dX12_blendAt_8 : decode cX12_blendAt 8 = .ok (.getfield 369, 3) := by decide +kernel
theorem dX12_blendAt_11 : decode cX12_blendAt 11 = .ok (.iconst 1, 1) := by decide +kernel
theorem dX12_blendAt_12 : decode cX12_blendAt 12 = .ok (.isub, 1) := by decide +kernel
theorem dX12_blendAt_13 : decode cX12_blendAt 13 = .ok (.invokestatic 75, 3) := by decide +kernel
theorem dX12_blendAt_16 : decode cX12_blendAt 16 = .ok (.ifCond .eq 12, 3) := by decide +kernel
theorem dX12_blendAt_19 : decode cX12_blendAt 19 = .ok (.aload_n 0, 1) := by decide +kernel
theorem dX12_blendAt_20 : decode cX12_blendAt 20 = .ok (.getfield 148, 3) := by decide +kernel
theorem dX12_blendAt_23 : decode cX12_blendAt 23 = .ok (.iload_n 1, 1) := by decide +kernel
theorem dX12_blendAt_24 : decode cX12_blendAt 24 = .ok (.iaload, 1) := by decide +kernel
theorem dX12_blendAt_25 : decode cX12_blendAt 25 = .ok (.goto 4, 3) := by decide +kernel
theorem dX12_blendAt_28 : decode cX12_blendAt 28 = .ok (.iconst (-1), 1) := by decide +kernel
theorem dX12_blendAt_29 : decode cX12_blendAt 29 = .ok (.ireturn, 1) := by decide +kernel
theorem dX12_ripe_0 : decode cX12_ripe 0 = .ok (.aload_n 0, 1) := by decide +kernel
theorem dX12_ripe_1 : decode cX12_ripe 1 = .ok (.iconst 0, 1) := by decide +kernel
theorem dX12_ripe_2 : decode cX12_ripe 2 = .ok (.putfield 1, 3) := by decide +kernel
theorem dX12_ripe_5 : decode cX12_ripe 5 = .ok (.aload_n 0, 1) := by decide +kernel
theorem dX12_ripe_6 : decode cX12_ripe 6 = .ok (.iload_n 1, 1) := by decide +kernel
theorem dX12_ripe_7 : decode cX12_ripe 7 = .ok (.invokevirtual 266, 3) := by decide +kernel
theorem dX12_ripe_10 : decode cX12_ripe 10 = .ok (.ifCond .eq 19, 3) := by decide +kernel
theorem dX12_ripe_13 : decode cX12_ripe 13 = .ok (.aload_n 0, 1) := by decide +kernel
theorem dX12_ripe_14 : decode cX12_ripe 14 = .ok (.iload_n 2, 1) := by decide +kernel
theorem dX12_ripe_15 : decode cX12_ripe 15 = .ok (.invokevirtual 280, 3) := by decide +kernel
theorem dX12_ripe_18 : decode cX12_ripe 18 = .ok (.ifCond .eq 11, 3) := by decide +kernel
theorem dX12_ripe_21 : decode cX12_ripe 21 = .ok (.aload_n 0, 1) := by decide +kernel
theorem dX12_ripe_22 : decode cX12_ripe 22 = .ok (.iload_n 1, 1) := by decide +kernel
theorem dX12_ripe_23 : decode cX12_ripe 23 = .ok (.invokevirtual 257, 3) := by decide +kernel
theorem dX12_ripe_26 : decode cX12_ripe 26 = .ok (.ifCond .ne 5, 3) := by decide +kernel
theorem dX12_ripe_29 : decode cX12_ripe 29 = .ok (.iconst (-1), 1) := by decide +kernel
theorem dX12_ripe_30 : decode cX12_ripe 30 = .ok (.ireturn, 1) := by decide +kernel
theorem dX12_ripe_31 : decode cX12_ripe 31 = .ok (.aload_n 0, 1) := by decide +kernel
theorem dX12_ripe_32 : decode cX12_ripe 32 = .ok (.invokevirtual 372, 3) := by decide +kernel
theorem dX12_ripe_35 : decode cX12_ripe 35 = .ok (.iconst 0, 1) := by decide +kernel
theorem dX12_ripe_36 : decode cX12_ripe 36 = .ok (.istore_n 3, 1) := by decide +kernel
theorem dX12_ripe_37 : decode cX12_ripe 37 = .ok (.aload_n 0, 1) := by decide +kernel
theorem dX12_ripe_38 : decode cX12_ripe 38 = .ok (.getfield 98, 3) := by decide +kernel
theorem dX12_ripe_41 : decode cX12_ripe 41 = .ok (.sipush 815, 3) := by decide +kernel
theorem dX12_ripe_44 : decode cX12_ripe 44 = .ok (.iaload, 1) := by decide +kernel
theorem dX12_ripe_45 : decode cX12_ripe 45 = .ok (.bipush 39, 2) := by decide +kernel
theorem dX12_ripe_47 : decode cX12_ripe 47 = .ok (.if_icmp .ge 28, 3) := by decide +kernel
theorem dX12_ripe_50 : decode cX12_ripe 50 = .ok (.aload_n 0, 1) := by decide +kernel
theorem dX12_ripe_51 : decode cX12_ripe 51 = .ok (.iload_n 1, 1) := by decide +kernel
theorem dX12_ripe_52 : decode cX12_ripe 52 = .ok (.invokevirtual 263, 3) := by decide +kernel
theorem dX12_ripe_55 : decode cX12_ripe 55 = .ok (.iload_n 2, 1) := by decide +kernel
theorem dX12_ripe_56 : decode cX12_ripe 56 = .ok (.aload_n 0, 1) := by decide +kernel
theorem dX12_ripe_57 : decode cX12_ripe 57 = .ok (.iload_n 1, 1) := by decide +kernel
theorem dX12_ripe_58 : decode cX12_ripe 58 = .ok (.invokevirtual 257, 3) := by decide +kernel
theorem dX12_ripe_61 : decode cX12_ripe 61 = .ok (.imul, 1) := by decide +kernel
theorem dX12_ripe_62 : decode cX12_ripe 62 = .ok (.if_icmp .ge 13, 3) := by decide +kernel
theorem dX12_ripe_65 : decode cX12_ripe 65 = .ok (.aload_n 0, 1) := by decide +kernel
theorem dX12_ripe_66 : decode cX12_ripe 66 = .ok (.invokevirtual 352, 3) := by decide +kernel
theorem dX12_ripe_69 : decode cX12_ripe 69 = .ok (.iinc 3 1, 3) := by decide +kernel
theorem dX12_ripe_72 : decode cX12_ripe 72 = .ok (.goto (-35), 3) := by decide +kernel
theorem dX12_ripe_75 : decode cX12_ripe 75 = .ok (.aload_n 0, 1) := by decide +kernel
theorem dX12_ripe_76 : decode cX12_ripe 76 = .ok (.iload_n 1, 1) := by decide +kernel
theorem dX12_ripe_77 : decode cX12_ripe 77 = .ok (.invokevirtual 263, 3) := by decide +kernel
theorem dX12_ripe_80 : decode cX12_ripe 80 = .ok (.iload_n 2, 1) := by decide +kernel
theorem dX12_ripe_81 : decode cX12_ripe 81 = .ok (.aload_n 0, 1) := by decide +kernel
theorem dX12_ripe_82 : decode cX12_ripe 82 = .ok (.iload_n 1, 1) := by decide +kernel
theorem dX12_ripe_83 : decode cX12_ripe 83 = .ok (.invokevirtual 257, 3) := by decide +kernel
theorem dX12_ripe_86 : decode cX12_ripe 86 = .ok (.imul, 1) := by decide +kernel
theorem dX12_ripe_87 : decode cX12_ripe 87 = .ok (.if_icmp .lt 7, 3) := by decide +kernel
theorem dX12_ripe_90 : decode cX12_ripe 90 = .ok (.iconst 1, 1) := by decide +kernel
theorem dX12_ripe_91 : decode cX12_ripe 91 = .ok (.goto 4, 3) := by decide +kernel
theorem dX12_ripe_94 : decode cX12_ripe 94 = .ok (.iconst 0, 1) := by decide +kernel
theorem dX12_ripe_95 : decode cX12_ripe 95 = .ok (.istore 4, 2) := by decide +kernel
theorem dX12_ripe_97 : decode cX12_ripe 97 = .ok (.aload_n 0, 1) := by decide +kernel
theorem dX12_ripe_98 : decode cX12_ripe 98 = .ok (.invokevirtual 375, 3) := by decide +kernel
theorem dX12_ripe_101 : decode cX12_ripe 101 = .ok (.iload 4, 2) := by decide +kernel
theorem dX12_ripe_103 : decode cX12_ripe 103 = .ok (.ifCond .eq 7, 3) := by decide +kernel
theorem dX12_ripe_106 : decode cX12_ripe 106 = .ok (.iload_n 3, 1) := by decide +kernel
theorem dX12_ripe_107 : decode cX12_ripe 107 = .ok (.goto 4, 3) := by decide +kernel
theorem dX12_ripe_110 : decode cX12_ripe 110 = .ok (.iconst (-1), 1) := by decide +kernel
theorem dX12_ripe_111 : decode cX12_ripe 111 = .ok (.ireturn, 1) := by decide +kernel
theorem dX12_isOld_0 : decode cX12_isOld 0 = .ok (.aload_n 0, 1) := by decide +kernel
theorem dX12_isOld_1 : decode cX12_isOld 1 = .ok (.iconst 0, 1) := by decide +kernel
theorem dX12_isOld_2 : decode cX12_isOld 2 = .ok (.iconst 0, 1) := by decide +kernel
theorem dX12_isOld_3 : decode cX12_isOld 3 = .ok (.invokevirtual 276, 3) := by decide +kernel
theorem dX12_isOld_6 : decode cX12_isOld 6 = .ok (.ifCond .le 24, 3) := by decide +kernel
theorem dX12_isOld_9 : decode cX12_isOld 9 = .ok (.aload_n 0, 1) := by decide +kernel
theorem dX12_isOld_10 : decode cX12_isOld 10 = .ok (.iconst 0, 1) := by decide +kernel
theorem dX12_isOld_11 : decode cX12_isOld 11 = .ok (.iconst 2, 1) := by decide +kernel
theorem dX12_isOld_12 : decode cX12_isOld 12 = .ok (.invokevirtual 276, 3) := by decide +kernel
theorem dX12_isOld_15 : decode cX12_isOld 15 = .ok (.iload_n 1, 1) := by decide +kernel
theorem dX12_isOld_16 : decode cX12_isOld 16 = .ok (.aload_n 0, 1) := by decide +kernel
theorem dX12_isOld_17 : decode cX12_isOld 17 = .ok (.iconst 0, 1) := by decide +kernel
theorem dX12_isOld_18 : decode cX12_isOld 18 = .ok (.iconst 0, 1) := by decide +kernel
theorem dX12_isOld_19 : decode cX12_isOld 19 = .ok (.invokevirtual 276, 3) := by decide +kernel
theorem dX12_isOld_22 : decode cX12_isOld 22 = .ok (.imul, 1) := by decide +kernel
theorem dX12_isOld_23 : decode cX12_isOld 23 = .ok (.if_icmp .lt 7, 3) := by decide +kernel
theorem dX12_isOld_26 : decode cX12_isOld 26 = .ok (.iconst 1, 1) := by decide +kernel
theorem dX12_isOld_27 : decode cX12_isOld 27 = .ok (.goto 4, 3) := by decide +kernel
theorem dX12_isOld_30 : decode cX12_isOld 30 = .ok (.iconst 0, 1) := by decide +kernel
theorem dX12_isOld_31 : decode cX12_isOld 31 = .ok (.ireturn, 1) := by decide +kernel
theorem dX12_planYear_0 : decode cX12_planYear 0 = .ok (.iconst 0, 1) := by decide +kernel
theorem dX12_planYear_1 : decode cX12_planYear 1 = .ok (.istore_n 2, 1) := by decide +kernel
theorem dX12_planYear_2 : decode cX12_planYear 2 = .ok (.iload_n 2, 1) := by decide +kernel
theorem dX12_planYear_3 : decode cX12_planYear 3 = .ok (.aload_n 0, 1) := by decide +kernel
theorem dX12_planYear_4 : decode cX12_planYear 4 = .ok (.getfield 98, 3) := by decide +kernel
theorem dX12_planYear_7 : decode cX12_planYear 7 = .ok (.iconst 5, 1) := by decide +kernel
theorem dX12_planYear_8 : decode cX12_planYear 8 = .ok (.iaload, 1) := by decide +kernel
theorem dX12_planYear_9 : decode cX12_planYear 9 = .ok (.if_icmp .ge 36, 3) := by decide +kernel
theorem dX12_planYear_12 : decode cX12_planYear 12 = .ok (.aload_n 0, 1) := by decide +kernel
theorem dX12_planYear_13 : decode cX12_planYear 13 = .ok (.aload_n 0, 1) := by decide +kernel
theorem dX12_planYear_14 : decode cX12_planYear 14 = .ok (.getfield 98, 3) := by decide +kernel
theorem dX12_planYear_17 : decode cX12_planYear 17 = .ok (.aload_n 0, 1) := by decide +kernel
theorem dX12_planYear_18 : decode cX12_planYear 18 = .ok (.iload_n 2, 1) := by decide +kernel
theorem dX12_planYear_19 : decode cX12_planYear 19 = .ok (.invokevirtual 251, 3) := by decide +kernel
theorem dX12_planYear_22 : decode cX12_planYear 22 = .ok (.iload_n 1, 1) := by decide +kernel
theorem dX12_planYear_23 : decode cX12_planYear 23 = .ok (.aload_n 0, 1) := by decide +kernel
theorem dX12_planYear_24 : decode cX12_planYear 24 = .ok (.iload_n 2, 1) := by decide +kernel
theorem dX12_planYear_25 : decode cX12_planYear 25 = .ok (.invokevirtual 257, 3) := by decide +kernel
theorem dX12_planYear_28 : decode cX12_planYear 28 = .ok (.invokestatic 349, 3) := by decide +kernel
theorem dX12_planYear_31 : decode cX12_planYear 31 = .ok (.aload_n 0, 1) := by decide +kernel
theorem dX12_planYear_32 : decode cX12_planYear 32 = .ok (.getfield 142, 3) := by decide +kernel
theorem dX12_planYear_35 : decode cX12_planYear 35 = .ok (.iconst 0, 1) := by decide +kernel
theorem dX12_planYear_36 : decode cX12_planYear 36 = .ok (.invokevirtual 321, 3) := by decide +kernel
theorem dX12_planYear_39 : decode cX12_planYear 39 = .ok (.iinc 2 1, 3) := by decide +kernel
theorem dX12_planYear_42 : decode cX12_planYear 42 = .ok (.goto (-40), 3) := by decide +kernel
theorem dX12_planYear_45 : decode cX12_planYear 45 = .ok (.iconst 0, 1) := by decide +kernel
theorem dX12_planYear_46 : decode cX12_planYear 46 = .ok (.istore_n 2, 1) := by decide +kernel
theorem dX12_planYear_47 : decode cX12_planYear 47 = .ok (.iload_n 2, 1) := by decide +kernel
theorem dX12_planYear_48 : decode cX12_planYear 48 = .ok (.aload_n 0, 1) := by decide +kernel
theorem dX12_planYear_49 : decode cX12_planYear 49 = .ok (.getfield 98, 3) := by decide +kernel
theorem dX12_planYear_52 : decode cX12_planYear 52 = .ok (.iconst 0, 1) := by decide +kernel
theorem dX12_planYear_53 : decode cX12_planYear 53 = .ok (.iaload, 1) := by decide +kernel
theorem dX12_planYear_54 : decode cX12_planYear 54 = .ok (.if_icmp .ge 22, 3) := by decide +kernel
theorem dX12_planYear_57 : decode cX12_planYear 57 = .ok (.aload_n 0, 1) := by decide +kernel
theorem dX12_planYear_58 : decode cX12_planYear 58 = .ok (.iload_n 2, 1) := by decide +kernel
theorem dX12_planYear_59 : decode cX12_planYear 59 = .ok (.invokevirtual 311, 3) := by decide +kernel
theorem dX12_planYear_62 : decode cX12_planYear 62 = .ok (.ifCond .ne 8, 3) := by decide +kernel
theorem dX12_planYear_65 : decode cX12_planYear 65 = .ok (.aload_n 0, 1) := by decide +kernel
theorem dX12_planYear_66 : decode cX12_planYear 66 = .ok (.iload_n 2, 1) := by decide +kernel
theorem dX12_planYear_67 : decode cX12_planYear 67 = .ok (.invokevirtual 328, 3) := by decide +kernel
theorem dX12_planYear_70 : decode cX12_planYear 70 = .ok (.iinc 2 1, 3) := by decide +kernel
theorem dX12_planYear_73 : decode cX12_planYear 73 = .ok (.goto (-26), 3) := by decide +kernel
theorem dX12_planYear_76 : decode cX12_planYear 76 = .ok (.aload_n 0, 1) := by decide +kernel
theorem dX12_planYear_77 : decode cX12_planYear 77 = .ok (.iconst 2, 1) := by decide +kernel
theorem dX12_planYear_78 : decode cX12_planYear 78 = .ok (.iconst 0, 1) := by decide +kernel
theorem dX12_planYear_79 : decode cX12_planYear 79 = .ok (.iconst 0, 1) := by decide +kernel
theorem dX12_planYear_80 : decode cX12_planYear 80 = .ok (.iconst 0, 1) := by decide +kernel
theorem dX12_planYear_81 : decode cX12_planYear 81 = .ok (.invokevirtual 334, 3) := by decide +kernel
theorem dX12_planYear_84 : decode cX12_planYear 84 = .ok (.ifCond .ne 7, 3) := by decide +kernel
theorem dX12_planYear_87 : decode cX12_planYear 87 = .ok (.aload_n 0, 1) := by decide +kernel
theorem dX12_planYear_88 : decode cX12_planYear 88 = .ok (.invokevirtual 331, 3) := by decide +kernel
theorem dX12_planYear_91 : decode cX12_planYear 91 = .ok (.aload_n 0, 1) := by decide +kernel
theorem dX12_planYear_92 : decode cX12_planYear 92 = .ok (.invokevirtual 352, 3) := by decide +kernel
theorem dX12_planYear_95 : decode cX12_planYear 95 = .ok (.return_, 1) := by decide +kernel
theorem dX12_plan_0 : decode cX12_plan 0 = .ok (.aload_n 0, 1) := by decide +kernel
theorem dX12_plan_1 : decode cX12_plan 1 = .ok (.iconst 0, 1) := by decide +kernel
theorem dX12_plan_2 : decode cX12_plan 2 = .ok (.putfield 1, 3) := by decide +kernel
theorem dX12_plan_5 : decode cX12_plan 5 = .ok (.aload_n 0, 1) := by decide +kernel
theorem dX12_plan_6 : decode cX12_plan 6 = .ok (.getfield 98, 3) := by decide +kernel
theorem dX12_plan_9 : decode cX12_plan 9 = .ok (.iconst 0, 1) := by decide +kernel
theorem dX12_plan_10 : decode cX12_plan 10 = .ok (.iaload, 1) := by decide +kernel
theorem dX12_plan_11 : decode cX12_plan 11 = .ok (.ifCond .eq 22, 3) := by decide +kernel
theorem dX12_plan_14 : decode cX12_plan 14 = .ok (.iload_n 1, 1) := by decide +kernel
theorem dX12_plan_15 : decode cX12_plan 15 = .ok (.iconst 0, 1) := by decide +kernel
theorem dX12_plan_16 : decode cX12_plan 16 = .ok (.sipush 400, 3) := by decide +kernel
theorem dX12_plan_19 : decode cX12_plan 19 = .ok (.invokestatic 75, 3) := by decide +kernel
theorem dX12_plan_22 : decode cX12_plan 22 = .ok (.ifCond .eq 11, 3) := by decide +kernel
theorem dX12_plan_25 : decode cX12_plan 25 = .ok (.aload_n 0, 1) := by decide +kernel
theorem dX12_plan_26 : decode cX12_plan 26 = .ok (.iload_n 2, 1) := by decide +kernel
theorem dX12_plan_27 : decode cX12_plan 27 = .ok (.invokevirtual 280, 3) := by decide +kernel
theorem dX12_plan_30 : decode cX12_plan 30 = .ok (.ifCond .ne 5, 3) := by decide +kernel
theorem dX12_plan_33 : decode cX12_plan 33 = .ok (.iconst (-1), 1) := by decide +kernel
theorem dX12_plan_34 : decode cX12_plan 34 = .ok (.ireturn, 1) := by decide +kernel
theorem dX12_plan_35 : decode cX12_plan 35 = .ok (.aload_n 0, 1) := by decide +kernel
theorem dX12_plan_36 : decode cX12_plan 36 = .ok (.invokevirtual 372, 3) := by decide +kernel
theorem dX12_plan_39 : decode cX12_plan 39 = .ok (.iconst 0, 1) := by decide +kernel
theorem dX12_plan_40 : decode cX12_plan 40 = .ok (.istore_n 3, 1) := by decide +kernel
theorem dX12_plan_41 : decode cX12_plan 41 = .ok (.aload_n 0, 1) := by decide +kernel
theorem dX12_plan_42 : decode cX12_plan 42 = .ok (.getfield 98, 3) := by decide +kernel
theorem dX12_plan_45 : decode cX12_plan 45 = .ok (.sipush 815, 3) := by decide +kernel
theorem dX12_plan_48 : decode cX12_plan 48 = .ok (.iaload, 1) := by decide +kernel
theorem dX12_plan_49 : decode cX12_plan 49 = .ok (.bipush 39, 2) := by decide +kernel
theorem dX12_plan_51 : decode cX12_plan 51 = .ok (.if_icmp .ge 22, 3) := by decide +kernel
theorem dX12_plan_54 : decode cX12_plan 54 = .ok (.aload_n 0, 1) := by decide +kernel
theorem dX12_plan_55 : decode cX12_plan 55 = .ok (.iload_n 2, 1) := by decide +kernel
theorem dX12_plan_56 : decode cX12_plan 56 = .ok (.invokevirtual 378, 3) := by decide +kernel
theorem dX12_plan_59 : decode cX12_plan 59 = .ok (.ifCond .ne 14, 3) := by decide +kernel
theorem dX12_plan_62 : decode cX12_plan 62 = .ok (.aload_n 0, 1) := by decide +kernel
theorem dX12_plan_63 : decode cX12_plan 63 = .ok (.iload_n 1, 1) := by decide +kernel
theorem dX12_plan_64 : decode cX12_plan 64 = .ok (.invokevirtual 381, 3) := by decide +kernel
theorem dX12_plan_67 : decode cX12_plan 67 = .ok (.iinc 3 1, 3) := by decide +kernel
theorem dX12_plan_70 : decode cX12_plan 70 = .ok (.goto (-29), 3) := by decide +kernel
theorem dX12_plan_73 : decode cX12_plan 73 = .ok (.aload_n 0, 1) := by decide +kernel
theorem dX12_plan_74 : decode cX12_plan 74 = .ok (.iload_n 2, 1) := by decide +kernel
theorem dX12_plan_75 : decode cX12_plan 75 = .ok (.invokevirtual 378, 3) := by decide +kernel
theorem dX12_plan_78 : decode cX12_plan 78 = .ok (.istore 4, 2) := by decide +kernel
theorem dX12_plan_80 : decode cX12_plan 80 = .ok (.aload_n 0, 1) := by decide +kernel
theorem dX12_plan_81 : decode cX12_plan 81 = .ok (.invokevirtual 375, 3) := by decide +kernel
theorem dX12_plan_84 : decode cX12_plan 84 = .ok (.iload 4, 2) := by decide +kernel
theorem dX12_plan_86 : decode cX12_plan 86 = .ok (.ifCond .eq 7, 3) := by decide +kernel
theorem dX12_plan_89 : decode cX12_plan 89 = .ok (.iload_n 3, 1) := by decide +kernel
theorem dX12_plan_90 : decode cX12_plan 90 = .ok (.goto 4, 3) := by decide +kernel
theorem dX12_plan_93 : decode cX12_plan 93 = .ok (.iconst (-1), 1) := by decide +kernel
theorem dX12_plan_94 : decode cX12_plan 94 = .ok (.ireturn, 1) := by decide +kernel
theorem dX12_isSuch_0 : decode cX12_isSuch 0 = .ok (.aload_n 0, 1) := by decide +kernel
theorem dX12_isSuch_1 : decode cX12_isSuch 1 = .ok (.iload_n 1, 1) := by decide +kernel
theorem dX12_isSuch_2 : decode cX12_isSuch 2 = .ok (.invokevirtual 257, 3) := by decide +kernel
theorem dX12_isSuch_5 : decode cX12_isSuch 5 = .ok (.iload_n 2, 1) := by decide +kernel
theorem dX12_isSuch_6 : decode cX12_isSuch 6 = .ok (.if_icmp .ge 5, 3) := by decide +kernel
theorem dX12_isSuch_9 : decode cX12_isSuch 9 = .ok (.iconst 0, 1) := by decide +kernel
theorem dX12_isSuch_10 : decode cX12_isSuch 10 = .ok (.ireturn, 1) := by decide +kernel
theorem dX12_isSuch_11 : decode cX12_isSuch 11 = .ok (.aload_n 0, 1) := by decide +kernel
theorem dX12_isSuch_12 : decode cX12_isSuch 12 = .ok (.aload_n 0, 1) := by decide +kernel
theorem dX12_isSuch_13 : decode cX12_isSuch 13 = .ok (.getfield 98, 3) := by decide +kernel
theorem dX12_isSuch_16 : decode cX12_isSuch 16 = .ok (.aload_n 0, 1) := by decide +kernel
theorem dX12_isSuch_17 : decode cX12_isSuch 17 = .ok (.iload_n 1, 1) := by decide +kernel
theorem dX12_isSuch_18 : decode cX12_isSuch 18 = .ok (.invokevirtual 251, 3) := by decide +kernel
theorem dX12_isSuch_21 : decode cX12_isSuch 21 = .ok (.iload_n 2, 1) := by decide +kernel
theorem dX12_isSuch_22 : decode cX12_isSuch 22 = .ok (.invokevirtual 307, 3) := by decide +kernel
theorem dX12_isSuch_25 : decode cX12_isSuch 25 = .ok (.iconst 1, 1) := by decide +kernel
theorem dX12_isSuch_26 : decode cX12_isSuch 26 = .ok (.istore_n 3, 1) := by decide +kernel
theorem dX12_isSuch_27 : decode cX12_isSuch 27 = .ok (.iconst 0, 1) := by decide +kernel
theorem dX12_isSuch_28 : decode cX12_isSuch 28 = .ok (.istore 4, 2) := by decide +kernel
theorem dX12_isSuch_30 : decode cX12_isSuch 30 = .ok (.iload 4, 2) := by decide +kernel
theorem dX12_isSuch_32 : decode cX12_isSuch 32 = .ok (.bipush 40, 2) := by decide +kernel
theorem dX12_isSuch_34 : decode cX12_isSuch 34 = .ok (.if_icmp .ge 36, 3) := by decide +kernel
theorem dX12_isSuch_37 : decode cX12_isSuch 37 = .ok (.iload_n 3, 1) := by decide +kernel
theorem dX12_isSuch_38 : decode cX12_isSuch 38 = .ok (.ifCond .eq 24, 3) := by decide +kernel
theorem dX12_isSuch_41 : decode cX12_isSuch 41 = .ok (.aload_n 0, 1) := by decide +kernel
theorem dX12_isSuch_42 : decode cX12_isSuch 42 = .ok (.getfield 130, 3) := by decide +kernel
theorem dX12_isSuch_45 : decode cX12_isSuch 45 = .ok (.iload 4, 2) := by decide +kernel
theorem dX12_isSuch_47 : decode cX12_isSuch 47 = .ok (.iaload, 1) := by decide +kernel
theorem dX12_isSuch_48 : decode cX12_isSuch 48 = .ok (.aload_n 0, 1) := by decide +kernel
theorem dX12_isSuch_49 : decode cX12_isSuch 49 = .ok (.getfield 154, 3) := by decide +kernel
theorem dX12_isSuch_52 : decode cX12_isSuch 52 = .ok (.iload 4, 2) := by decide +kernel
theorem dX12_isSuch_54 : decode cX12_isSuch 54 = .ok (.iaload, 1) := by decide +kernel
theorem dX12_isSuch_55 : decode cX12_isSuch 55 = .ok (.if_icmp .ne 7, 3) := by decide +kernel
theorem dX12_isSuch_58 : decode cX12_isSuch 58 = .ok (.iconst 1, 1) := by decide +kernel
theorem dX12_isSuch_59 : decode cX12_isSuch 59 = .ok (.goto 4, 3) := by decide +kernel
theorem dX12_isSuch_62 : decode cX12_isSuch 62 = .ok (.iconst 0, 1) := by decide +kernel
theorem dX12_isSuch_63 : decode cX12_isSuch 63 = .ok (.istore_n 3, 1) := by decide +kernel
theorem dX12_isSuch_64 : decode cX12_isSuch 64 = .ok (.iinc 4 1, 3) := by decide +kernel
theorem dX12_isSuch_67 : decode cX12_isSuch 67 = .ok (.goto (-37), 3) := by decide +kernel
theorem dX12_isSuch_70 : decode cX12_isSuch 70 = .ok (.iload_n 3, 1) := by decide +kernel
theorem dX12_isSuch_71 : decode cX12_isSuch 71 = .ok (.ireturn, 1) := by decide +kernel
theorem dX12_leftBy_0 : decode cX12_leftBy 0 = .ok (.iconst 0, 1) := by decide +kernel
theorem dX12_leftBy_1 : decode cX12_leftBy 1 = .ok (.istore_n 3, 1) := by decide +kernel
theorem dX12_leftBy_2 : decode cX12_leftBy 2 = .ok (.iconst 0, 1) := by decide +kernel
theorem dX12_leftBy_3 : decode cX12_leftBy 3 = .ok (.istore 4, 2) := by decide +kernel
theorem dX12_leftBy_5 : decode cX12_leftBy 5 = .ok (.iload 4, 2) := by decide +kernel
theorem dX12_leftBy_7 : decode cX12_leftBy 7 = .ok (.aload_n 0, 1) := by decide +kernel
theorem dX12_leftBy_8 : decode cX12_leftBy 8 = .ok (.getfield 98, 3) := by decide +kernel
theorem dX12_leftBy_11 : decode cX12_leftBy 11 = .ok (.iconst 1, 1) := by decide +kernel
theorem dX12_leftBy_12 : decode cX12_leftBy 12 = .ok (.iaload, 1) := by decide +kernel
theorem dX12_leftBy_13 : decode cX12_leftBy 13 = .ok (.if_icmp .ge 94, 3) := by decide +kernel
theorem dX12_leftBy_16 : decode cX12_leftBy 16 = .ok (.iload_n 1, 1) := by decide +kernel
theorem dX12_leftBy_17 : decode cX12_leftBy 17 = .ok (.iload 4, 2) := by decide +kernel
theorem dX12_leftBy_19 : decode cX12_leftBy 19 = .ok (.invokestatic 384, 3) := by decide +kernel
theorem dX12_leftBy_22 : decode cX12_leftBy 22 = .ok (.ifCond .ne 6, 3) := by decide +kernel
theorem dX12_leftBy_25 : decode cX12_leftBy 25 = .ok (.goto 76, 3) := by decide +kernel
theorem dX12_leftBy_28 : decode cX12_leftBy 28 = .ok (.iconst 0, 1) := by decide +kernel
theorem dX12_leftBy_29 : decode cX12_leftBy 29 = .ok (.istore 5, 2) := by decide +kernel
theorem dX12_leftBy_31 : decode cX12_leftBy 31 = .ok (.iconst 0, 1) := by decide +kernel
theorem dX12_leftBy_32 : decode cX12_leftBy 32 = .ok (.istore 6, 2) := by decide +kernel
theorem dX12_leftBy_34 : decode cX12_leftBy 34 = .ok (.iload 6, 2) := by decide +kernel
theorem dX12_leftBy_36 : decode cX12_leftBy 36 = .ok (.aload_n 0, 1) := by decide +kernel
theorem dX12_leftBy_37 : decode cX12_leftBy 37 = .ok (.getfield 98, 3) := by decide +kernel
theorem dX12_leftBy_40 : decode cX12_leftBy 40 = .ok (.iconst 1, 1) := by decide +kernel
theorem dX12_leftBy_41 : decode cX12_leftBy 41 = .ok (.iaload, 1) := by decide +kernel
theorem dX12_leftBy_42 : decode cX12_leftBy 42 = .ok (.if_icmp .ge 50, 3) := by decide +kernel
theorem dX12_leftBy_45 : decode cX12_leftBy 45 = .ok (.iload_n 1, 1) := by decide +kernel
theorem dX12_leftBy_46 : decode cX12_leftBy 46 = .ok (.iload 6, 2) := by decide +kernel
theorem dX12_leftBy_48 : decode cX12_leftBy 48 = .ok (.invokestatic 384, 3) := by decide +kernel
theorem dX12_leftBy_51 : decode cX12_leftBy 51 = .ok (.ifCond .eq 35, 3) := by decide +kernel
theorem dX12_leftBy_54 : decode cX12_leftBy 54 = .ok (.aload_n 0, 1) := by decide +kernel
theorem dX12_leftBy_55 : decode cX12_leftBy 55 = .ok (.getfield 98, 3) := by decide +kernel
theorem dX12_leftBy_58 : decode cX12_leftBy 58 = .ok (.aload_n 0, 1) := by decide +kernel
theorem dX12_leftBy_59 : decode cX12_leftBy 59 = .ok (.iload 6, 2) := by decide +kernel
theorem dX12_leftBy_61 : decode cX12_leftBy 61 = .ok (.invokevirtual 251, 3) := by decide +kernel
theorem dX12_leftBy_64 : decode cX12_leftBy 64 = .ok (.iload_n 2, 1) := by decide +kernel
theorem dX12_leftBy_65 : decode cX12_leftBy 65 = .ok (.iadd, 1) := by decide +kernel
theorem dX12_leftBy_66 : decode cX12_leftBy 66 = .ok (.iaload, 1) := by decide +kernel
theorem dX12_leftBy_67 : decode cX12_leftBy 67 = .ok (.aload_n 0, 1) := by decide +kernel
theorem dX12_leftBy_68 : decode cX12_leftBy 68 = .ok (.getfield 98, 3) := by decide +kernel
theorem dX12_leftBy_71 : decode cX12_leftBy 71 = .ok (.aload_n 0, 1) := by decide +kernel
theorem dX12_leftBy_72 : decode cX12_leftBy 72 = .ok (.iload 4, 2) := by decide +kernel
theorem dX12_leftBy_74 : decode cX12_leftBy 74 = .ok (.invokevirtual 251, 3) := by decide +kernel
theorem dX12_leftBy_77 : decode cX12_leftBy 77 = .ok (.iload_n 2, 1) := by decide +kernel
theorem dX12_leftBy_78 : decode cX12_leftBy 78 = .ok (.iadd, 1) := by decide +kernel
theorem dX12_leftBy_79 : decode cX12_leftBy 79 = .ok (.iaload, 1) := by decide +kernel
theorem dX12_leftBy_80 : decode cX12_leftBy 80 = .ok (.if_icmp .ne 6, 3) := by decide +kernel
theorem dX12_leftBy_83 : decode cX12_leftBy 83 = .ok (.iinc 5 1, 3) := by decide +kernel
theorem dX12_leftBy_86 : decode cX12_leftBy 86 = .ok (.iinc 6 1, 3) := by decide +kernel
theorem dX12_leftBy_89 : decode cX12_leftBy 89 = .ok (.goto (-55), 3) := by decide +kernel
theorem dX12_leftBy_92 : decode cX12_leftBy 92 = .ok (.iload 5, 2) := by decide +kernel
theorem dX12_leftBy_94 : decode cX12_leftBy 94 = .ok (.iload_n 3, 1) := by decide +kernel
theorem dX12_leftBy_95 : decode cX12_leftBy 95 = .ok (.if_icmp .le 6, 3) := by decide +kernel
theorem dX12_leftBy_98 : decode cX12_leftBy 98 = .ok (.iload 5, 2) := by decide +kernel
theorem dX12_leftBy_100 : decode cX12_leftBy 100 = .ok (.istore_n 3, 1) := by decide +kernel
theorem dX12_leftBy_101 : decode cX12_leftBy 101 = .ok (.iinc 4 1, 3) := by decide +kernel
theorem dX12_leftBy_104 : decode cX12_leftBy 104 = .ok (.goto (-99), 3) := by decide +kernel
theorem dX12_leftBy_107 : decode cX12_leftBy 107 = .ok (.iload_n 3, 1) := by decide +kernel
theorem dX12_leftBy_108 : decode cX12_leftBy 108 = .ok (.ireturn, 1) := by decide +kernel
theorem dX12_layAsking_0 : decode cX12_layAsking 0 = .ok (.aload_n 0, 1) := by decide +kernel
theorem dX12_layAsking_1 : decode cX12_layAsking 1 = .ok (.iconst 0, 1) := by decide +kernel
theorem dX12_layAsking_2 : decode cX12_layAsking 2 = .ok (.putfield 157, 3) := by decide +kernel
theorem dX12_layAsking_5 : decode cX12_layAsking 5 = .ok (.aload_n 0, 1) := by decide +kernel
theorem dX12_layAsking_6 : decode cX12_layAsking 6 = .ok (.iload_n 1, 1) := by decide +kernel
theorem dX12_layAsking_7 : decode cX12_layAsking 7 = .ok (.iconst 0, 1) := by decide +kernel
theorem dX12_layAsking_8 : decode cX12_layAsking 8 = .ok (.invokevirtual 387, 3) := by decide +kernel
theorem dX12_layAsking_11 : decode cX12_layAsking 11 = .ok (.istore_n 2, 1) := by decide +kernel
theorem dX12_layAsking_12 : decode cX12_layAsking 12 = .ok (.iconst 1, 1) := by decide +kernel
theorem dX12_layAsking_13 : decode cX12_layAsking 13 = .ok (.istore_n 3, 1) := by decide +kernel
theorem dX12_layAsking_14 : decode cX12_layAsking 14 = .ok (.iload_n 3, 1) := by decide +kernel
theorem dX12_layAsking_15 : decode cX12_layAsking 15 = .ok (.bipush 40, 2) := by decide +kernel
theorem dX12_layAsking_17 : decode cX12_layAsking 17 = .ok (.if_icmp .ge 34, 3) := by decide +kernel
theorem dX12_layAsking_20 : decode cX12_layAsking 20 = .ok (.aload_n 0, 1) := by decide +kernel
theorem dX12_layAsking_21 : decode cX12_layAsking 21 = .ok (.iload_n 1, 1) := by decide +kernel
theorem dX12_layAsking_22 : decode cX12_layAsking 22 = .ok (.iload_n 3, 1) := by decide +kernel
theorem dX12_layAsking_23 : decode cX12_layAsking 23 = .ok (.invokevirtual 387, 3) := by decide +kernel
theorem dX12_layAsking_26 : decode cX12_layAsking 26 = .ok (.istore 4, 2) := by decide +kernel
theorem dX12_layAsking_28 : decode cX12_layAsking 28 = .ok (.iload 4, 2) := by decide +kernel
theorem dX12_layAsking_30 : decode cX12_layAsking 30 = .ok (.iload_n 2, 1) := by decide +kernel
theorem dX12_layAsking_31 : decode cX12_layAsking 31 = .ok (.if_icmp .lt 6, 3) := by decide +kernel
theorem dX12_layAsking_34 : decode cX12_layAsking 34 = .ok (.goto 11, 3) := by decide +kernel
theorem dX12_layAsking_37 : decode cX12_layAsking 37 = .ok (.iload 4, 2) := by decide +kernel
theorem dX12_layAsking_39 : decode cX12_layAsking 39 = .ok (.istore_n 2, 1) := by decide +kernel
theorem dX12_layAsking_40 : decode cX12_layAsking 40 = .ok (.aload_n 0, 1) := by decide +kernel
theorem dX12_layAsking_41 : decode cX12_layAsking 41 = .ok (.iload_n 3, 1) := by decide +kernel
theorem dX12_layAsking_42 : decode cX12_layAsking 42 = .ok (.putfield 157, 3) := by decide +kernel
theorem dX12_layAsking_45 : decode cX12_layAsking 45 = .ok (.iinc 3 1, 3) := by decide +kernel
theorem dX12_layAsking_48 : decode cX12_layAsking 48 = .ok (.goto (-34), 3) := by decide +kernel
theorem dX12_layAsking_51 : decode cX12_layAsking 51 = .ok (.return_, 1) := by decide +kernel
theorem dX12_which_0 : decode cX12_which 0 = .ok (.aload_n 0, 1) := by decide +kernel
theorem dX12_which_1 : decode cX12_which 1 = .ok (.iconst 0, 1) := by decide +kernel
theorem dX12_which_2 : decode cX12_which 2 = .ok (.putfield 1, 3) := by decide +kernel
theorem dX12_which_5 : decode cX12_which 5 = .ok (.aload_n 0, 1) := by decide +kernel
theorem dX12_which_6 : decode cX12_which 6 = .ok (.invokevirtual 89, 3) := by decide +kernel
theorem dX12_which_9 : decode cX12_which 9 = .ok (.istore_n 1, 1) := by decide +kernel
theorem dX12_which_10 : decode cX12_which 10 = .ok (.iload_n 1, 1) := by decide +kernel
theorem dX12_which_11 : decode cX12_which 11 = .ok (.iconst 2, 1) := by decide +kernel
theorem dX12_which_12 : decode cX12_which 12 = .ok (.irem, 1) := by decide +kernel
theorem dX12_which_13 : decode cX12_which 13 = .ok (.ifCond .ne 15, 3) := by decide +kernel
theorem dX12_which_16 : decode cX12_which 16 = .ok (.iload_n 1, 1) := by decide +kernel
theorem dX12_which_17 : decode cX12_which 17 = .ok (.iconst 2, 1) := by decide +kernel
theorem dX12_which_18 : decode cX12_which 18 = .ok (.idiv, 1) := by decide +kernel
theorem dX12_which_19 : decode cX12_which 19 = .ok (.iconst 1, 1) := by decide +kernel
theorem dX12_which_20 : decode cX12_which 20 = .ok (.bipush 20, 2) := by decide +kernel
theorem dX12_which_22 : decode cX12_which 22 = .ok (.invokestatic 75, 3) := by decide +kernel
theorem dX12_which_25 : decode cX12_which 25 = .ok (.ifCond .ne 5, 3) := by decide +kernel
theorem dX12_which_28 : decode cX12_which 28 = .ok (.iconst (-1), 1) := by decide +kernel
theorem dX12_which_29 : decode cX12_which 29 = .ok (.ireturn, 1) := by decide +kernel
theorem dX12_which_30 : decode cX12_which 30 = .ok (.aload_n 0, 1) := by decide +kernel
theorem dX12_which_31 : decode cX12_which 31 = .ok (.aload_n 0, 1) := by decide +kernel
theorem dX12_which_32 : decode cX12_which 32 = .ok (.getfield 154, 3) := by decide +kernel
theorem dX12_which_35 : decode cX12_which 35 = .ok (.iconst 0, 1) := by decide +kernel
theorem dX12_which_36 : decode cX12_which 36 = .ok (.invokevirtual 317, 3) := by decide +kernel
theorem dX12_which_39 : decode cX12_which 39 = .ok (.iconst 0, 1) := by decide +kernel
theorem dX12_which_40 : decode cX12_which 40 = .ok (.istore_n 2, 1) := by decide +kernel
theorem dX12_which_41 : decode cX12_which 41 = .ok (.iload_n 2, 1) := by decide +kernel
theorem dX12_which_42 : decode cX12_which 42 = .ok (.iload_n 1, 1) := by decide +kernel
theorem dX12_which_43 : decode cX12_which 43 = .ok (.if_icmp .ge 46, 3) := by decide +kernel
theorem dX12_which_46 : decode cX12_which 46 = .ok (.aload_n 0, 1) := by decide +kernel
theorem dX12_which_47 : decode cX12_which 47 = .ok (.aload_n 0, 1) := by decide +kernel
theorem dX12_which_48 : decode cX12_which 48 = .ok (.getfield 7, 3) := by decide +kernel
theorem dX12_which_51 : decode cX12_which 51 = .ok (.iload_n 2, 1) := by decide +kernel
theorem dX12_which_52 : decode cX12_which 52 = .ok (.iaload, 1) := by decide +kernel
theorem dX12_which_53 : decode cX12_which 53 = .ok (.invokevirtual 280, 3) := by decide +kernel
theorem dX12_which_56 : decode cX12_which 56 = .ok (.ifCond .ne 5, 3) := by decide +kernel
theorem dX12_which_59 : decode cX12_which 59 = .ok (.iconst (-1), 1) := by decide +kernel
theorem dX12_which_60 : decode cX12_which 60 = .ok (.ireturn, 1) := by decide +kernel
theorem dX12_which_61 : decode cX12_which 61 = .ok (.aload_n 0, 1) := by decide +kernel
theorem dX12_which_62 : decode cX12_which 62 = .ok (.getfield 154, 3) := by decide +kernel
theorem dX12_which_65 : decode cX12_which 65 = .ok (.aload_n 0, 1) := by decide +kernel
theorem dX12_which_66 : decode cX12_which 66 = .ok (.getfield 7, 3) := by decide +kernel
theorem dX12_which_69 : decode cX12_which 69 = .ok (.iload_n 2, 1) := by decide +kernel
theorem dX12_which_70 : decode cX12_which 70 = .ok (.iaload, 1) := by decide +kernel
theorem dX12_which_71 : decode cX12_which 71 = .ok (.dup2, 1) := by decide +kernel
theorem dX12_which_72 : decode cX12_which 72 = .ok (.iaload, 1) := by decide +kernel
theorem dX12_which_73 : decode cX12_which 73 = .ok (.aload_n 0, 1) := by decide +kernel
theorem dX12_which_74 : decode cX12_which 74 = .ok (.getfield 7, 3) := by decide +kernel
theorem dX12_which_77 : decode cX12_which 77 = .ok (.iload_n 2, 1) := by decide +kernel
theorem dX12_which_78 : decode cX12_which 78 = .ok (.iconst 1, 1) := by decide +kernel
theorem dX12_which_79 : decode cX12_which 79 = .ok (.iadd, 1) := by decide +kernel
theorem dX12_which_80 : decode cX12_which 80 = .ok (.iaload, 1) := by decide +kernel
theorem dX12_which_81 : decode cX12_which 81 = .ok (.iadd, 1) := by decide +kernel
theorem dX12_which_82 : decode cX12_which 82 = .ok (.iastore, 1) := by decide +kernel
theorem dX12_which_83 : decode cX12_which 83 = .ok (.iinc 2 2, 3) := by decide +kernel
theorem dX12_which_86 : decode cX12_which 86 = .ok (.goto (-45), 3) := by decide +kernel
theorem dX12_which_89 : decode cX12_which 89 = .ok (.aload_n 0, 1) := by decide +kernel
theorem dX12_which_90 : decode cX12_which 90 = .ok (.getfield 154, 3) := by decide +kernel
theorem dX12_which_93 : decode cX12_which 93 = .ok (.iconst 0, 1) := by decide +kernel
theorem dX12_which_94 : decode cX12_which 94 = .ok (.invokestatic 206, 3) := by decide +kernel
theorem dX12_which_97 : decode cX12_which 97 = .ok (.istore_n 2, 1) := by decide +kernel
theorem dX12_which_98 : decode cX12_which 98 = .ok (.iload_n 2, 1) := by decide +kernel
theorem dX12_which_99 : decode cX12_which 99 = .ok (.ifCond .ne 5, 3) := by decide +kernel
theorem dX12_which_102 : decode cX12_which 102 = .ok (.iconst (-1), 1) := by decide +kernel
theorem dX12_which_103 : decode cX12_which 103 = .ok (.ireturn, 1) := by decide +kernel
theorem dX12_which_104 : decode cX12_which 104 = .ok (.iconst 0, 1) := by decide +kernel
theorem dX12_which_105 : decode cX12_which 105 = .ok (.istore_n 3, 1) := by decide +kernel
theorem dX12_which_106 : decode cX12_which 106 = .ok (.iconst 0, 1) := by decide +kernel
theorem dX12_which_107 : decode cX12_which 107 = .ok (.istore 4, 2) := by decide +kernel
theorem dX12_which_109 : decode cX12_which 109 = .ok (.iload 4, 2) := by decide +kernel
theorem dX12_which_111 : decode cX12_which 111 = .ok (.aload_n 0, 1) := by decide +kernel
theorem dX12_which_112 : decode cX12_which 112 = .ok (.getfield 98, 3) := by decide +kernel
theorem dX12_which_115 : decode cX12_which 115 = .ok (.iconst 1, 1) := by decide +kernel
theorem dX12_which_116 : decode cX12_which 116 = .ok (.iaload, 1) := by decide +kernel
theorem dX12_which_117 : decode cX12_which 117 = .ok (.if_icmp .ge 26, 3) := by decide +kernel
theorem dX12_which_120 : decode cX12_which 120 = .ok (.aload_n 0, 1) := by decide +kernel
theorem dX12_which_121 : decode cX12_which 121 = .ok (.iload 4, 2) := by decide +kernel
theorem dX12_which_123 : decode cX12_which 123 = .ok (.iload_n 2, 1) := by decide +kernel
theorem dX12_which_124 : decode cX12_which 124 = .ok (.invokevirtual 390, 3) := by decide +kernel
theorem dX12_which_127 : decode cX12_which 127 = .ok (.ifCond .eq 10, 3) := by decide +kernel
theorem dX12_which_130 : decode cX12_which 130 = .ok (.iload_n 3, 1) := by decide +kernel
theorem dX12_which_131 : decode cX12_which 131 = .ok (.iconst 1, 1) := by decide +kernel
theorem dX12_which_132 : decode cX12_which 132 = .ok (.iload 4, 2) := by decide +kernel
theorem dX12_which_134 : decode cX12_which 134 = .ok (.ishl, 1) := by decide +kernel
theorem dX12_which_135 : decode cX12_which 135 = .ok (.ior, 1) := by decide +kernel
theorem dX12_which_136 : decode cX12_which 136 = .ok (.istore_n 3, 1) := by decide +kernel
theorem dX12_which_137 : decode cX12_which 137 = .ok (.iinc 4 1, 3) := by decide +kernel
theorem dX12_which_140 : decode cX12_which 140 = .ok (.goto (-31), 3) := by decide +kernel
theorem dX12_which_143 : decode cX12_which 143 = .ok (.iload_n 3, 1) := by decide +kernel
theorem dX12_which_144 : decode cX12_which 144 = .ok (.ifCond .ne 5, 3) := by decide +kernel
theorem dX12_which_147 : decode cX12_which 147 = .ok (.iconst 0, 1) := by decide +kernel
theorem dX12_which_148 : decode cX12_which 148 = .ok (.ireturn, 1) := by decide +kernel
theorem dX12_which_149 : decode cX12_which 149 = .ok (.aload_n 0, 1) := by decide +kernel
theorem dX12_which_150 : decode cX12_which 150 = .ok (.iload_n 3, 1) := by decide +kernel
theorem dX12_which_151 : decode cX12_which 151 = .ok (.invokevirtual 393, 3) := by decide +kernel
theorem dX12_which_154 : decode cX12_which 154 = .ok (.iload_n 3, 1) := by decide +kernel
theorem dX12_which_155 : decode cX12_which 155 = .ok (.ireturn, 1) := by decide +kernel
theorem dX12_ask_0 : decode cX12_ask 0 = .ok (.aload_n 0, 1) := by decide +kernel
theorem dX12_ask_1 : decode cX12_ask 1 = .ok (.iconst 0, 1) := by decide +kernel
theorem dX12_ask_2 : decode cX12_ask 2 = .ok (.putfield 1, 3) := by decide +kernel
theorem dX12_ask_5 : decode cX12_ask 5 = .ok (.aload_n 0, 1) := by decide +kernel
theorem dX12_ask_6 : decode cX12_ask 6 = .ok (.getfield 157, 3) := by decide +kernel
theorem dX12_ask_9 : decode cX12_ask 9 = .ok (.ireturn, 1) := by decide +kernel
theorem dX12_mostBelow_0 : decode cX12_mostBelow 0 = .ok (.iconst 0, 1) := by decide +kernel
theorem dX12_mostBelow_1 : decode cX12_mostBelow 1 = .ok (.istore 4, 2) := by decide +kernel
theorem dX12_mostBelow_3 : decode cX12_mostBelow 3 = .ok (.iconst 0, 1) := by decide +kernel
theorem dX12_mostBelow_4 : decode cX12_mostBelow 4 = .ok (.istore 5, 2) := by decide +kernel
theorem dX12_mostBelow_6 : decode cX12_mostBelow 6 = .ok (.iconst 0, 1) := by decide +kernel
theorem dX12_mostBelow_7 : decode cX12_mostBelow 7 = .ok (.istore 6, 2) := by decide +kernel
theorem dX12_mostBelow_9 : decode cX12_mostBelow 9 = .ok (.iload 6, 2) := by decide +kernel
theorem dX12_mostBelow_11 : decode cX12_mostBelow 11 = .ok (.iload_n 2, 1) := by decide +kernel
theorem dX12_mostBelow_12 : decode cX12_mostBelow 12 = .ok (.if_icmp .ge 91, 3) := by decide +kernel
theorem dX12_mostBelow_15 : decode cX12_mostBelow 15 = .ok (.iload 6, 2) := by decide +kernel
theorem dX12_mostBelow_17 : decode cX12_mostBelow 17 = .ok (.iload_n 1, 1) := by decide +kernel
theorem dX12_mostBelow_18 : decode cX12_mostBelow 18 = .ok (.if_icmp .ge 85, 3) := by decide +kernel
theorem dX12_mostBelow_21 : decode cX12_mostBelow 21 = .ok (.iconst (-1), 1) := by decide +kernel
theorem dX12_mostBelow_22 : decode cX12_mostBelow 22 = .ok (.istore 7, 2) := by decide +kernel
theorem dX12_mostBelow_24 : decode cX12_mostBelow 24 = .ok (.iconst 0, 1) := by decide +kernel
theorem dX12_mostBelow_25 : decode cX12_mostBelow 25 = .ok (.istore 8, 2) := by decide +kernel
theorem dX12_mostBelow_27 : decode cX12_mostBelow 27 = .ok (.iload 8, 2) := by decide +kernel
theorem dX12_mostBelow_29 : decode cX12_mostBelow 29 = .ok (.iload_n 1, 1) := by decide +kernel
theorem dX12_mostBelow_30 : decode cX12_mostBelow 30 = .ok (.if_icmp .ge 46, 3) := by decide +kernel
theorem dX12_mostBelow_33 : decode cX12_mostBelow 33 = .ok (.iload 4, 2) := by decide +kernel
theorem dX12_mostBelow_35 : decode cX12_mostBelow 35 = .ok (.iload 8, 2) := by decide +kernel
theorem dX12_mostBelow_37 : decode cX12_mostBelow 37 = .ok (.invokestatic 384, 3) := by decide +kernel
theorem dX12_mostBelow_40 : decode cX12_mostBelow 40 = .ok (.ifCond .ne 30, 3) := by decide +kernel
theorem dX12_mostBelow_43 : decode cX12_mostBelow 43 = .ok (.iload 7, 2) := by decide +kernel
theorem dX12_mostBelow_45 : decode cX12_mostBelow 45 = .ok (.iconst (-1), 1) := by decide +kernel
theorem dX12_mostBelow_46 : decode cX12_mostBelow 46 = .ok (.if_icmp .eq 20, 3) := by decide +kernel
theorem dX12_mostBelow_49 : decode cX12_mostBelow 49 = .ok (.aload_n 0, 1) := by decide +kernel
theorem dX12_mostBelow_50 : decode cX12_mostBelow 50 = .ok (.iload 8, 2) := by decide +kernel
theorem dX12_mostBelow_52 : decode cX12_mostBelow 52 = .ok (.iload_n 3, 1) := by decide +kernel
theorem dX12_mostBelow_53 : decode cX12_mostBelow 53 = .ok (.invokevirtual 300, 3) := by decide +kernel
theorem dX12_mostBelow_56 : decode cX12_mostBelow 56 = .ok (.aload_n 0, 1) := by decide +kernel
theorem dX12_mostBelow_57 : decode cX12_mostBelow 57 = .ok (.iload 7, 2) := by decide +kernel
theorem dX12_mostBelow_59 : decode cX12_mostBelow 59 = .ok (.iload_n 3, 1) := by decide +kernel
theorem dX12_mostBelow_60 : decode cX12_mostBelow 60 = .ok (.invokevirtual 300, 3) := by decide +kernel
theorem dX12_mostBelow_63 : decode cX12_mostBelow 63 = .ok (.if_icmp .le 7, 3) := by decide +kernel
theorem dX12_mostBelow_66 : decode cX12_mostBelow 66 = .ok (.iload 8, 2) := by decide +kernel
theorem dX12_mostBelow_68 : decode cX12_mostBelow 68 = .ok (.istore 7, 2) := by decide +kernel
theorem dX12_mostBelow_70 : decode cX12_mostBelow 70 = .ok (.iinc 8 1, 3) := by decide +kernel
theorem dX12_mostBelow_73 : decode cX12_mostBelow 73 = .ok (.goto (-46), 3) := by decide +kernel
theorem dX12_mostBelow_76 : decode cX12_mostBelow 76 = .ok (.iload 4, 2) := by decide +kernel
theorem dX12_mostBelow_78 : decode cX12_mostBelow 78 = .ok (.iconst 1, 1) := by decide +kernel
