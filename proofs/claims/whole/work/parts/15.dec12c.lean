theorem dX12_mostBelow_79 : decode cX12_mostBelow 79 = .ok (.iload 7, 2) := by decide +kernel
theorem dX12_mostBelow_81 : decode cX12_mostBelow 81 = .ok (.ishl, 1) := by decide +kernel
theorem dX12_mostBelow_82 : decode cX12_mostBelow 82 = .ok (.ior, 1) := by decide +kernel
theorem dX12_mostBelow_83 : decode cX12_mostBelow 83 = .ok (.istore 4, 2) := by decide +kernel
theorem dX12_mostBelow_85 : decode cX12_mostBelow 85 = .ok (.iload 5, 2) := by decide +kernel
theorem dX12_mostBelow_87 : decode cX12_mostBelow 87 = .ok (.aload_n 0, 1) := by decide +kernel
theorem dX12_mostBelow_88 : decode cX12_mostBelow 88 = .ok (.iload 7, 2) := by decide +kernel
theorem dX12_mostBelow_90 : decode cX12_mostBelow 90 = .ok (.iload_n 3, 1) := by decide +kernel
theorem dX12_mostBelow_91 : decode cX12_mostBelow 91 = .ok (.invokevirtual 300, 3) := by decide +kernel
theorem dX12_mostBelow_94 : decode cX12_mostBelow 94 = .ok (.iadd, 1) := by decide +kernel
theorem dX12_mostBelow_95 : decode cX12_mostBelow 95 = .ok (.istore 5, 2) := by decide +kernel
theorem dX12_mostBelow_97 : decode cX12_mostBelow 97 = .ok (.iinc 6 1, 3) := by decide +kernel
theorem dX12_mostBelow_100 : decode cX12_mostBelow 100 = .ok (.goto (-91), 3) := by decide +kernel
theorem dX12_mostBelow_103 : decode cX12_mostBelow 103 = .ok (.iload 5, 2) := by decide +kernel
theorem dX12_mostBelow_105 : decode cX12_mostBelow 105 = .ok (.ireturn, 1) := by decide +kernel
theorem dX12_store_0 : decode cX12_store 0 = .ok (.aload_n 0, 1) := by decide +kernel
theorem dX12_store_1 : decode cX12_store 1 = .ok (.iconst 0, 1) := by decide +kernel
theorem dX12_store_2 : decode cX12_store 2 = .ok (.putfield 1, 3) := by decide +kernel
theorem dX12_store_5 : decode cX12_store 5 = .ok (.iload_n 1, 1) := by decide +kernel
theorem dX12_store_6 : decode cX12_store 6 = .ok (.iconst 1, 1) := by decide +kernel
theorem dX12_store_7 : decode cX12_store 7 = .ok (.sipush 999, 3) := by decide +kernel
theorem dX12_store_10 : decode cX12_store 10 = .ok (.invokestatic 75, 3) := by decide +kernel
theorem dX12_store_13 : decode cX12_store 13 = .ok (.ifCond .eq 11, 3) := by decide +kernel
theorem dX12_store_16 : decode cX12_store 16 = .ok (.aload_n 0, 1) := by decide +kernel
theorem dX12_store_17 : decode cX12_store 17 = .ok (.iload_n 2, 1) := by decide +kernel
theorem dX12_store_18 : decode cX12_store 18 = .ok (.invokevirtual 280, 3) := by decide +kernel
theorem dX12_store_21 : decode cX12_store 21 = .ok (.ifCond .ne 5, 3) := by decide +kernel
theorem dX12_store_24 : decode cX12_store 24 = .ok (.iconst (-1), 1) := by decide +kernel
theorem dX12_store_25 : decode cX12_store 25 = .ok (.ireturn, 1) := by decide +kernel
theorem dX12_store_26 : decode cX12_store 26 = .ok (.aload_n 0, 1) := by decide +kernel
theorem dX12_store_27 : decode cX12_store 27 = .ok (.getfield 98, 3) := by decide +kernel
theorem dX12_store_30 : decode cX12_store 30 = .ok (.iconst 1, 1) := by decide +kernel
theorem dX12_store_31 : decode cX12_store 31 = .ok (.iaload, 1) := by decide +kernel
theorem dX12_store_32 : decode cX12_store 32 = .ok (.istore_n 3, 1) := by decide +kernel
theorem dX12_store_33 : decode cX12_store 33 = .ok (.iconst 1, 1) := by decide +kernel
theorem dX12_store_34 : decode cX12_store 34 = .ok (.istore 4, 2) := by decide +kernel
theorem dX12_store_36 : decode cX12_store 36 = .ok (.iload 4, 2) := by decide +kernel
theorem dX12_store_38 : decode cX12_store 38 = .ok (.iload_n 3, 1) := by decide +kernel
theorem dX12_store_39 : decode cX12_store 39 = .ok (.if_icmp .gt 21, 3) := by decide +kernel
theorem dX12_store_42 : decode cX12_store 42 = .ok (.aload_n 0, 1) := by decide +kernel
theorem dX12_store_43 : decode cX12_store 43 = .ok (.iload_n 3, 1) := by decide +kernel
theorem dX12_store_44 : decode cX12_store 44 = .ok (.iload 4, 2) := by decide +kernel
theorem dX12_store_46 : decode cX12_store 46 = .ok (.iload_n 2, 1) := by decide +kernel
theorem dX12_store_47 : decode cX12_store 47 = .ok (.invokevirtual 396, 3) := by decide +kernel
theorem dX12_store_50 : decode cX12_store 50 = .ok (.iload_n 1, 1) := by decide +kernel
theorem dX12_store_51 : decode cX12_store 51 = .ok (.if_icmp .ge 9, 3) := by decide +kernel
theorem dX12_store_54 : decode cX12_store 54 = .ok (.iinc 4 1, 3) := by decide +kernel
theorem dX12_store_57 : decode cX12_store 57 = .ok (.goto (-21), 3) := by decide +kernel
theorem dX12_store_60 : decode cX12_store 60 = .ok (.iload 4, 2) := by decide +kernel
theorem dX12_store_62 : decode cX12_store 62 = .ok (.iload_n 3, 1) := by decide +kernel
theorem dX12_store_63 : decode cX12_store 63 = .ok (.if_icmp .le 5, 3) := by decide +kernel
theorem dX12_store_66 : decode cX12_store 66 = .ok (.iconst (-1), 1) := by decide +kernel
theorem dX12_store_67 : decode cX12_store 67 = .ok (.ireturn, 1) := by decide +kernel
theorem dX12_store_68 : decode cX12_store 68 = .ok (.iconst 0, 1) := by decide +kernel
theorem dX12_store_69 : decode cX12_store 69 = .ok (.istore 5, 2) := by decide +kernel
theorem dX12_store_71 : decode cX12_store 71 = .ok (.iload 4, 2) := by decide +kernel
theorem dX12_store_73 : decode cX12_store 73 = .ok (.istore 6, 2) := by decide +kernel
theorem dX12_store_75 : decode cX12_store 75 = .ok (.iload_n 1, 1) := by decide +kernel
theorem dX12_store_76 : decode cX12_store 76 = .ok (.istore 7, 2) := by decide +kernel
theorem dX12_store_78 : decode cX12_store 78 = .ok (.iload_n 3, 1) := by decide +kernel
theorem dX12_store_79 : decode cX12_store 79 = .ok (.iconst 1, 1) := by decide +kernel
theorem dX12_store_80 : decode cX12_store 80 = .ok (.isub, 1) := by decide +kernel
theorem dX12_store_81 : decode cX12_store 81 = .ok (.istore 8, 2) := by decide +kernel
theorem dX12_store_83 : decode cX12_store 83 = .ok (.iload 8, 2) := by decide +kernel
theorem dX12_store_85 : decode cX12_store 85 = .ok (.ifCond .lt 62, 3) := by decide +kernel
theorem dX12_store_88 : decode cX12_store 88 = .ok (.iload 6, 2) := by decide +kernel
theorem dX12_store_90 : decode cX12_store 90 = .ok (.ifCond .le 57, 3) := by decide +kernel
theorem dX12_store_93 : decode cX12_store 93 = .ok (.iload 8, 2) := by decide +kernel
theorem dX12_store_95 : decode cX12_store 95 = .ok (.iload 6, 2) := by decide +kernel
theorem dX12_store_97 : decode cX12_store 97 = .ok (.if_icmp .lt 20, 3) := by decide +kernel
theorem dX12_store_100 : decode cX12_store 100 = .ok (.aload_n 0, 1) := by decide +kernel
theorem dX12_store_101 : decode cX12_store 101 = .ok (.iload 8, 2) := by decide +kernel
theorem dX12_store_103 : decode cX12_store 103 = .ok (.iload 6, 2) := by decide +kernel
theorem dX12_store_105 : decode cX12_store 105 = .ok (.iload_n 2, 1) := by decide +kernel
theorem dX12_store_106 : decode cX12_store 106 = .ok (.invokevirtual 396, 3) := by decide +kernel
theorem dX12_store_109 : decode cX12_store 109 = .ok (.iload 7, 2) := by decide +kernel
theorem dX12_store_111 : decode cX12_store 111 = .ok (.if_icmp .lt 6, 3) := by decide +kernel
theorem dX12_store_114 : decode cX12_store 114 = .ok (.goto 27, 3) := by decide +kernel
theorem dX12_store_117 : decode cX12_store 117 = .ok (.iload 5, 2) := by decide +kernel
theorem dX12_store_119 : decode cX12_store 119 = .ok (.iconst 1, 1) := by decide +kernel
theorem dX12_store_120 : decode cX12_store 120 = .ok (.iload 8, 2) := by decide +kernel
theorem dX12_store_122 : decode cX12_store 122 = .ok (.ishl, 1) := by decide +kernel
theorem dX12_store_123 : decode cX12_store 123 = .ok (.ior, 1) := by decide +kernel
theorem dX12_store_124 : decode cX12_store 124 = .ok (.istore 5, 2) := by decide +kernel
theorem dX12_store_126 : decode cX12_store 126 = .ok (.iinc 6 (-1), 3) := by decide +kernel
theorem dX12_store_129 : decode cX12_store 129 = .ok (.iload 7, 2) := by decide +kernel
theorem dX12_store_131 : decode cX12_store 131 = .ok (.aload_n 0, 1) := by decide +kernel
theorem dX12_store_132 : decode cX12_store 132 = .ok (.iload 8, 2) := by decide +kernel
theorem dX12_store_134 : decode cX12_store 134 = .ok (.iload_n 2, 1) := by decide +kernel
theorem dX12_store_135 : decode cX12_store 135 = .ok (.invokevirtual 300, 3) := by decide +kernel
theorem dX12_store_138 : decode cX12_store 138 = .ok (.isub, 1) := by decide +kernel
theorem dX12_store_139 : decode cX12_store 139 = .ok (.istore 7, 2) := by decide +kernel
theorem dX12_store_141 : decode cX12_store 141 = .ok (.iinc 8 (-1), 3) := by decide +kernel
theorem dX12_store_144 : decode cX12_store 144 = .ok (.goto (-61), 3) := by decide +kernel
theorem dX12_store_147 : decode cX12_store 147 = .ok (.aload_n 0, 1) := by decide +kernel
theorem dX12_store_148 : decode cX12_store 148 = .ok (.iload 5, 2) := by decide +kernel
theorem dX12_store_150 : decode cX12_store 150 = .ok (.putfield 160, 3) := by decide +kernel
theorem dX12_store_153 : decode cX12_store 153 = .ok (.iload 4, 2) := by decide +kernel
theorem dX12_store_155 : decode cX12_store 155 = .ok (.ireturn, 1) := by decide +kernel
theorem dX12_stored_0 : decode cX12_stored 0 = .ok (.aload_n 0, 1) := by decide +kernel
theorem dX12_stored_1 : decode cX12_stored 1 = .ok (.iconst 0, 1) := by decide +kernel
theorem dX12_stored_2 : decode cX12_stored 2 = .ok (.putfield 1, 3) := by decide +kernel
theorem dX12_stored_5 : decode cX12_stored 5 = .ok (.aload_n 0, 1) := by decide +kernel
theorem dX12_stored_6 : decode cX12_stored 6 = .ok (.getfield 160, 3) := by decide +kernel
theorem dX12_stored_9 : decode cX12_stored 9 = .ok (.ireturn, 1) := by decide +kernel
theorem dX12_write_0 : decode cX12_write 0 = .ok (.aload_n 0, 1) := by decide +kernel
theorem dX12_write_1 : decode cX12_write 1 = .ok (.getfield 163, 3) := by decide +kernel
theorem dX12_write_4 : decode cX12_write 4 = .ok (.aload_n 0, 1) := by decide +kernel
theorem dX12_write_5 : decode cX12_write 5 = .ok (.getfield 399, 3) := by decide +kernel
theorem dX12_write_8 : decode cX12_write 8 = .ok (.iload_n 1, 1) := by decide +kernel
theorem dX12_write_9 : decode cX12_write 9 = .ok (.iastore, 1) := by decide +kernel
theorem dX12_write_10 : decode cX12_write 10 = .ok (.aload_n 0, 1) := by decide +kernel
theorem dX12_write_11 : decode cX12_write 11 = .ok (.dup, 1) := by decide +kernel
theorem dX12_write_12 : decode cX12_write 12 = .ok (.getfield 399, 3) := by decide +kernel
theorem dX12_write_15 : decode cX12_write 15 = .ok (.iconst 1, 1) := by decide +kernel
theorem dX12_write_16 : decode cX12_write 16 = .ok (.iadd, 1) := by decide +kernel
theorem dX12_write_17 : decode cX12_write 17 = .ok (.putfield 399, 3) := by decide +kernel
theorem dX12_write_20 : decode cX12_write 20 = .ok (.return_, 1) := by decide +kernel
theorem dX12_writeWord_0 : decode cX12_writeWord 0 = .ok (.lload_n 1, 1) := by decide +kernel
theorem dX12_writeWord_1 : decode cX12_writeWord 1 = .ok (.ldc2_w 54, 3) := by decide +kernel
theorem dX12_writeWord_4 : decode cX12_writeWord 4 = .ok (.lcmp, 1) := by decide +kernel
theorem dX12_writeWord_5 : decode cX12_writeWord 5 = .ok (.ifCond .lt 12, 3) := by decide +kernel
theorem dX12_writeWord_8 : decode cX12_writeWord 8 = .ok (.aload_n 0, 1) := by decide +kernel
theorem dX12_writeWord_9 : decode cX12_writeWord 9 = .ok (.lload_n 1, 1) := by decide +kernel
theorem dX12_writeWord_10 : decode cX12_writeWord 10 = .ok (.ldc2_w 54, 3) := by decide +kernel
theorem dX12_writeWord_13 : decode cX12_writeWord 13 = .ok (.ldiv, 1) := by decide +kernel
theorem dX12_writeWord_14 : decode cX12_writeWord 14 = .ok (.invokevirtual 402, 3) := by decide +kernel
theorem dX12_writeWord_17 : decode cX12_writeWord 17 = .ok (.aload_n 0, 1) := by decide +kernel
theorem dX12_writeWord_18 : decode cX12_writeWord 18 = .ok (.bipush 96, 2) := by decide +kernel
theorem dX12_writeWord_20 : decode cX12_writeWord 20 = .ok (.lload_n 1, 1) := by decide +kernel
theorem dX12_writeWord_21 : decode cX12_writeWord 21 = .ok (.ldc2_w 54, 3) := by decide +kernel
theorem dX12_writeWord_24 : decode cX12_writeWord 24 = .ok (.lrem, 1) := by decide +kernel
theorem dX12_writeWord_25 : decode cX12_writeWord 25 = .ok (.l2i, 1) := by decide +kernel
theorem dX12_writeWord_26 : decode cX12_writeWord 26 = .ok (.iadd, 1) := by decide +kernel
theorem dX12_writeWord_27 : decode cX12_writeWord 27 = .ok (.invokevirtual 406, 3) := by decide +kernel
theorem dX12_writeWord_30 : decode cX12_writeWord 30 = .ok (.return_, 1) := by decide +kernel
theorem dX12_writeNumber_0 : decode cX12_writeNumber 0 = .ok (.iload_n 1, 1) := by decide +kernel
theorem dX12_writeNumber_1 : decode cX12_writeNumber 1 = .ok (.bipush 9, 2) := by decide +kernel
theorem dX12_writeNumber_3 : decode cX12_writeNumber 3 = .ok (.if_icmp .le 11, 3) := by decide +kernel
theorem dX12_writeNumber_6 : decode cX12_writeNumber 6 = .ok (.aload_n 0, 1) := by decide +kernel
theorem dX12_writeNumber_7 : decode cX12_writeNumber 7 = .ok (.iload_n 1, 1) := by decide +kernel
theorem dX12_writeNumber_8 : decode cX12_writeNumber 8 = .ok (.bipush 10, 2) := by decide +kernel
theorem dX12_writeNumber_10 : decode cX12_writeNumber 10 = .ok (.idiv, 1) := by decide +kernel
theorem dX12_writeNumber_11 : decode cX12_writeNumber 11 = .ok (.invokevirtual 409, 3) := by decide +kernel
theorem dX12_writeNumber_14 : decode cX12_writeNumber 14 = .ok (.aload_n 0, 1) := by decide +kernel
theorem dX12_writeNumber_15 : decode cX12_writeNumber 15 = .ok (.bipush 48, 2) := by decide +kernel
theorem dX12_writeNumber_17 : decode cX12_writeNumber 17 = .ok (.iload_n 1, 1) := by decide +kernel
theorem dX12_writeNumber_18 : decode cX12_writeNumber 18 = .ok (.bipush 10, 2) := by decide +kernel
theorem dX12_writeNumber_20 : decode cX12_writeNumber 20 = .ok (.irem, 1) := by decide +kernel
theorem dX12_writeNumber_21 : decode cX12_writeNumber 21 = .ok (.iadd, 1) := by decide +kernel
theorem dX12_writeNumber_22 : decode cX12_writeNumber 22 = .ok (.invokevirtual 406, 3) := by decide +kernel
theorem dX12_writeNumber_25 : decode cX12_writeNumber 25 = .ok (.return_, 1) := by decide +kernel
theorem dX12_writeNext_0 : decode cX12_writeNext 0 = .ok (.aload_n 0, 1) := by decide +kernel
theorem dX12_writeNext_1 : decode cX12_writeNext 1 = .ok (.bipush 32, 2) := by decide +kernel
theorem dX12_writeNext_3 : decode cX12_writeNext 3 = .ok (.invokevirtual 406, 3) := by decide +kernel
theorem dX12_writeNext_6 : decode cX12_writeNext 6 = .ok (.aload_n 0, 1) := by decide +kernel
theorem dX12_writeNext_7 : decode cX12_writeNext 7 = .ok (.lload_n 1, 1) := by decide +kernel
theorem dX12_writeNext_8 : decode cX12_writeNext 8 = .ok (.invokevirtual 402, 3) := by decide +kernel
theorem dX12_writeNext_11 : decode cX12_writeNext 11 = .ok (.aload_n 0, 1) := by decide +kernel
theorem dX12_writeNext_12 : decode cX12_writeNext 12 = .ok (.bipush 32, 2) := by decide +kernel
theorem dX12_writeNext_14 : decode cX12_writeNext 14 = .ok (.invokevirtual 406, 3) := by decide +kernel
theorem dX12_writeNext_17 : decode cX12_writeNext 17 = .ok (.return_, 1) := by decide +kernel
theorem dX12_tag_0 : decode cX12_tag 0 = .ok (.aload_n 0, 1) := by decide +kernel
theorem dX12_tag_1 : decode cX12_tag 1 = .ok (.iconst 0, 1) := by decide +kernel
theorem dX12_tag_2 : decode cX12_tag 2 = .ok (.putfield 1, 3) := by decide +kernel
theorem dX12_tag_5 : decode cX12_tag 5 = .ok (.aload_n 0, 1) := by decide +kernel
theorem dX12_tag_6 : decode cX12_tag 6 = .ok (.iload_n 1, 1) := by decide +kernel
theorem dX12_tag_7 : decode cX12_tag 7 = .ok (.invokevirtual 266, 3) := by decide +kernel
theorem dX12_tag_10 : decode cX12_tag 10 = .ok (.ifCond .ne 5, 3) := by decide +kernel
theorem dX12_tag_13 : decode cX12_tag 13 = .ok (.iconst (-1), 1) := by decide +kernel
theorem dX12_tag_14 : decode cX12_tag 14 = .ok (.ireturn, 1) := by decide +kernel
theorem dX12_tag_15 : decode cX12_tag 15 = .ok (.aload_n 0, 1) := by decide +kernel
theorem dX12_tag_16 : decode cX12_tag 16 = .ok (.iconst 0, 1) := by decide +kernel
theorem dX12_tag_17 : decode cX12_tag 17 = .ok (.putfield 399, 3) := by decide +kernel
theorem dX12_tag_20 : decode cX12_tag 20 = .ok (.aload_n 0, 1) := by decide +kernel
theorem dX12_tag_21 : decode cX12_tag 21 = .ok (.aload_n 0, 1) := by decide +kernel
theorem dX12_tag_22 : decode cX12_tag 22 = .ok (.getfield 113, 3) := by decide +kernel
theorem dX12_tag_25 : decode cX12_tag 25 = .ok (.aload_n 0, 1) := by decide +kernel
theorem dX12_tag_26 : decode cX12_tag 26 = .ok (.iload_n 1, 1) := by decide +kernel
theorem dX12_tag_27 : decode cX12_tag 27 = .ok (.invokevirtual 248, 3) := by decide +kernel
theorem dX12_tag_30 : decode cX12_tag 30 = .ok (.laload, 1) := by decide +kernel
theorem dX12_tag_31 : decode cX12_tag 31 = .ok (.invokevirtual 402, 3) := by decide +kernel
theorem dX12_tag_34 : decode cX12_tag 34 = .ok (.aload_n 0, 1) := by decide +kernel
theorem dX12_tag_35 : decode cX12_tag 35 = .ok (.bipush 99, 2) := by decide +kernel
theorem dX12_tag_37 : decode cX12_tag 37 = .ok (.bipush 97, 2) := by decide +kernel
theorem dX12_tag_39 : decode cX12_tag 39 = .ok (.bipush 115, 2) := by decide +kernel
theorem dX12_tag_41 : decode cX12_tag 41 = .ok (.bipush 107, 2) := by decide +kernel
theorem dX12_tag_43 : decode cX12_tag 43 = .ok (.iconst 0, 1) := by decide +kernel
theorem dX12_tag_44 : decode cX12_tag 44 = .ok (.iconst 0, 1) := by decide +kernel
theorem dX12_tag_45 : decode cX12_tag 45 = .ok (.invokestatic 58, 3) := by decide +kernel
theorem dX12_tag_48 : decode cX12_tag 48 = .ok (.invokevirtual 412, 3) := by decide +kernel
theorem dX12_tag_51 : decode cX12_tag 51 = .ok (.aload_n 0, 1) := by decide +kernel
theorem dX12_tag_52 : decode cX12_tag 52 = .ok (.iload_n 1, 1) := by decide +kernel
theorem dX12_tag_53 : decode cX12_tag 53 = .ok (.aload_n 0, 1) := by decide +kernel
theorem dX12_tag_54 : decode cX12_tag 54 = .ok (.getfield 98, 3) := by decide +kernel
theorem dX12_tag_57 : decode cX12_tag 57 = .ok (.aload_n 0, 1) := by decide +kernel
theorem dX12_tag_58 : decode cX12_tag 58 = .ok (.iload_n 1, 1) := by decide +kernel
theorem dX12_tag_59 : decode cX12_tag 59 = .ok (.invokevirtual 248, 3) := by decide +kernel
theorem dX12_tag_62 : decode cX12_tag 62 = .ok (.invokestatic 202, 3) := by decide +kernel
theorem dX12_tag_65 : decode cX12_tag 65 = .ok (.isub, 1) := by decide +kernel
theorem dX12_tag_66 : decode cX12_tag 66 = .ok (.invokevirtual 409, 3) := by decide +kernel
theorem dX12_tag_69 : decode cX12_tag 69 = .ok (.aload_n 0, 1) := by decide +kernel
theorem dX12_tag_70 : decode cX12_tag 70 = .ok (.bipush 32, 2) := by decide +kernel
theorem dX12_tag_72 : decode cX12_tag 72 = .ok (.invokevirtual 406, 3) := by decide +kernel
theorem dX12_tag_75 : decode cX12_tag 75 = .ok (.aload_n 0, 1) := by decide +kernel
theorem dX12_tag_76 : decode cX12_tag 76 = .ok (.aload_n 0, 1) := by decide +kernel
theorem dX12_tag_77 : decode cX12_tag 77 = .ok (.iload_n 1, 1) := by decide +kernel
theorem dX12_tag_78 : decode cX12_tag 78 = .ok (.invokevirtual 257, 3) := by decide +kernel
theorem dX12_tag_81 : decode cX12_tag 81 = .ok (.invokevirtual 409, 3) := by decide +kernel
theorem dX12_tag_84 : decode cX12_tag 84 = .ok (.aload_n 0, 1) := by decide +kernel
theorem dX12_tag_85 : decode cX12_tag 85 = .ok (.bipush 111, 2) := by decide +kernel
theorem dX12_tag_87 : decode cX12_tag 87 = .ok (.bipush 102, 2) := by decide +kernel
theorem dX12_tag_89 : decode cX12_tag 89 = .ok (.iconst 0, 1) := by decide +kernel
theorem dX12_tag_90 : decode cX12_tag 90 = .ok (.iconst 0, 1) := by decide +kernel
theorem dX12_tag_91 : decode cX12_tag 91 = .ok (.iconst 0, 1) := by decide +kernel
theorem dX12_tag_92 : decode cX12_tag 92 = .ok (.iconst 0, 1) := by decide +kernel
theorem dX12_tag_93 : decode cX12_tag 93 = .ok (.invokestatic 58, 3) := by decide +kernel
theorem dX12_tag_96 : decode cX12_tag 96 = .ok (.invokevirtual 412, 3) := by decide +kernel
theorem dX12_tag_99 : decode cX12_tag 99 = .ok (.aload_n 0, 1) := by decide +kernel
theorem dX12_tag_100 : decode cX12_tag 100 = .ok (.aload_n 0, 1) := by decide +kernel
theorem dX12_tag_101 : decode cX12_tag 101 = .ok (.iload_n 1, 1) := by decide +kernel
theorem dX12_tag_102 : decode cX12_tag 102 = .ok (.invokevirtual 254, 3) := by decide +kernel
theorem dX12_tag_105 : decode cX12_tag 105 = .ok (.invokevirtual 409, 3) := by decide +kernel
theorem dX12_tag_108 : decode cX12_tag 108 = .ok (.aload_n 0, 1) := by decide +kernel
theorem dX12_tag_109 : decode cX12_tag 109 = .ok (.getfield 399, 3) := by decide +kernel
theorem dX12_tag_112 : decode cX12_tag 112 = .ok (.ireturn, 1) := by decide +kernel
theorem dX12_byteAt_0 : decode cX12_byteAt 0 = .ok (.aload_n 0, 1) := by decide +kernel
theorem dX12_byteAt_1 : decode cX12_byteAt 1 = .ok (.iconst 0, 1) := by decide +kernel
theorem dX12_byteAt_2 : decode cX12_byteAt 2 = .ok (.putfield 1, 3) := by decide +kernel
theorem dX12_byteAt_5 : decode cX12_byteAt 5 = .ok (.iload_n 1, 1) := by decide +kernel
theorem dX12_byteAt_6 : decode cX12_byteAt 6 = .ok (.iconst 0, 1) := by decide +kernel
theorem dX12_byteAt_7 : decode cX12_byteAt 7 = .ok (.aload_n 0, 1) := by decide +kernel
theorem dX12_byteAt_8 : decode cX12_byteAt 8 = .ok (.getfield 399, 3) := by decide +kernel
theorem dX12_byteAt_11 : decode cX12_byteAt 11 = .ok (.iconst 1, 1) := by decide +kernel
theorem dX12_byteAt_12 : decode cX12_byteAt 12 = .ok (.isub, 1) := by decide +kernel
theorem dX12_byteAt_13 : decode cX12_byteAt 13 = .ok (.invokestatic 75, 3) := by decide +kernel
theorem dX12_byteAt_16 : decode cX12_byteAt 16 = .ok (.ifCond .eq 12, 3) := by decide +kernel
theorem dX12_byteAt_19 : decode cX12_byteAt 19 = .ok (.aload_n 0, 1) := by decide +kernel
theorem dX12_byteAt_20 : decode cX12_byteAt 20 = .ok (.getfield 163, 3) := by decide +kernel
theorem dX12_byteAt_23 : decode cX12_byteAt 23 = .ok (.iload_n 1, 1) := by decide +kernel
theorem dX12_byteAt_24 : decode cX12_byteAt 24 = .ok (.iaload, 1) := by decide +kernel
theorem dX12_byteAt_25 : decode cX12_byteAt 25 = .ok (.goto 4, 3) := by decide +kernel
theorem dX12_byteAt_28 : decode cX12_byteAt 28 = .ok (.iconst (-1), 1) := by decide +kernel
theorem dX12_byteAt_29 : decode cX12_byteAt 29 = .ok (.ireturn, 1) := by decide +kernel
theorem dX12_pick_0 : decode cX12_pick 0 = .ok (.aload_n 0, 1) := by decide +kernel
theorem dX12_pick_1 : decode cX12_pick 1 = .ok (.aload_n 0, 1) := by decide +kernel
theorem dX12_pick_2 : decode cX12_pick 2 = .ok (.getfield 415, 3) := by decide +kernel
theorem dX12_pick_5 : decode cX12_pick 5 = .ok (.ldc_w 418, 3) := by decide +kernel
theorem dX12_pick_8 : decode cX12_pick 8 = .ok (.imul, 1) := by decide +kernel
theorem dX12_pick_9 : decode cX12_pick 9 = .ok (.sipush 12345, 3) := by decide +kernel
theorem dX12_pick_12 : decode cX12_pick 12 = .ok (.iadd, 1) := by decide +kernel
theorem dX12_pick_13 : decode cX12_pick 13 = .ok (.putfield 415, 3) := by decide +kernel
theorem dX12_pick_16 : decode cX12_pick 16 = .ok (.aload_n 0, 1) := by decide +kernel
theorem dX12_pick_17 : decode cX12_pick 17 = .ok (.getfield 415, 3) := by decide +kernel
theorem dX12_pick_20 : decode cX12_pick 20 = .ok (.bipush 8, 2) := by decide +kernel
theorem dX12_pick_22 : decode cX12_pick 22 = .ok (.iushr, 1) := by decide +kernel
theorem dX12_pick_23 : decode cX12_pick 23 = .ok (.iload_n 1, 1) := by decide +kernel
theorem dX12_pick_24 : decode cX12_pick 24 = .ok (.irem, 1) := by decide +kernel
theorem dX12_pick_25 : decode cX12_pick 25 = .ok (.ireturn, 1) := by decide +kernel
theorem dX12_doIf_0 : decode cX12_doIf 0 = .ok (.aload_n 0, 1) := by decide +kernel
theorem dX12_doIf_1 : decode cX12_doIf 1 = .ok (.iload_n 1, 1) := by decide +kernel
theorem dX12_doIf_2 : decode cX12_doIf 2 = .ok (.iload_n 2, 1) := by decide +kernel
theorem dX12_doIf_3 : decode cX12_doIf 3 = .ok (.iload_n 3, 1) := by decide +kernel
theorem dX12_doIf_4 : decode cX12_doIf 4 = .ok (.iload 4, 2) := by decide +kernel
theorem dX12_doIf_6 : decode cX12_doIf 6 = .ok (.invokevirtual 334, 3) := by decide +kernel
theorem dX12_doIf_9 : decode cX12_doIf 9 = .ok (.ifCond .ne 12, 3) := by decide +kernel
theorem dX12_doIf_12 : decode cX12_doIf 12 = .ok (.aload_n 0, 1) := by decide +kernel
theorem dX12_doIf_13 : decode cX12_doIf 13 = .ok (.iload_n 1, 1) := by decide +kernel
theorem dX12_doIf_14 : decode cX12_doIf 14 = .ok (.iload_n 2, 1) := by decide +kernel
theorem dX12_doIf_15 : decode cX12_doIf 15 = .ok (.iload_n 3, 1) := by decide +kernel
theorem dX12_doIf_16 : decode cX12_doIf 16 = .ok (.iload 4, 2) := by decide +kernel
theorem dX12_doIf_18 : decode cX12_doIf 18 = .ok (.invokevirtual 341, 3) := by decide +kernel
theorem dX12_doIf_21 : decode cX12_doIf 21 = .ok (.return_, 1) := by decide +kernel
theorem dX12_picksOne_0 : decode cX12_picksOne 0 = .ok (.aload_n 0, 1) := by decide +kernel
theorem dX12_picksOne_1 : decode cX12_picksOne 1 = .ok (.bipush 6, 2) := by decide +kernel
theorem dX12_picksOne_3 : decode cX12_picksOne 3 = .ok (.invokevirtual 419, 3) := by decide +kernel
theorem dX12_picksOne_6 : decode cX12_picksOne 6 = .ok (.istore_n 1, 1) := by decide +kernel
theorem dX12_picksOne_7 : decode cX12_picksOne 7 = .ok (.iload_n 1, 1) := by decide +kernel
theorem dX12_picksOne_8 : decode cX12_picksOne 8 = .ok (.iconst 2, 1) := by decide +kernel
theorem dX12_picksOne_9 : decode cX12_picksOne 9 = .ok (.if_icmp .ge 29, 3) := by decide +kernel
theorem dX12_picksOne_12 : decode cX12_picksOne 12 = .ok (.aload_n 0, 1) := by decide +kernel
theorem dX12_picksOne_13 : decode cX12_picksOne 13 = .ok (.aload_n 0, 1) := by decide +kernel
theorem dX12_picksOne_14 : decode cX12_picksOne 14 = .ok (.getfield 98, 3) := by decide +kernel
theorem dX12_picksOne_17 : decode cX12_picksOne 17 = .ok (.iconst 1, 1) := by decide +kernel
theorem dX12_picksOne_18 : decode cX12_picksOne 18 = .ok (.iaload, 1) := by decide +kernel
theorem dX12_picksOne_19 : decode cX12_picksOne 19 = .ok (.invokevirtual 419, 3) := by decide +kernel
theorem dX12_picksOne_22 : decode cX12_picksOne 22 = .ok (.istore_n 2, 1) := by decide +kernel
theorem dX12_picksOne_23 : decode cX12_picksOne 23 = .ok (.aload_n 0, 1) := by decide +kernel
theorem dX12_picksOne_24 : decode cX12_picksOne 24 = .ok (.iconst 0, 1) := by decide +kernel
theorem dX12_picksOne_25 : decode cX12_picksOne 25 = .ok (.iload_n 2, 1) := by decide +kernel
theorem dX12_picksOne_26 : decode cX12_picksOne 26 = .ok (.iconst 0, 1) := by decide +kernel
theorem dX12_picksOne_27 : decode cX12_picksOne 27 = .ok (.aload_n 0, 1) := by decide +kernel
theorem dX12_picksOne_28 : decode cX12_picksOne 28 = .ok (.bipush 40, 2) := by decide +kernel
theorem dX12_picksOne_30 : decode cX12_picksOne 30 = .ok (.invokevirtual 419, 3) := by decide +kernel
theorem dX12_picksOne_33 : decode cX12_picksOne 33 = .ok (.iconst 1, 1) := by decide +kernel
theorem dX12_picksOne_34 : decode cX12_picksOne 34 = .ok (.iadd, 1) := by decide +kernel
theorem dX12_picksOne_35 : decode cX12_picksOne 35 = .ok (.invokevirtual 422, 3) := by decide +kernel
theorem dX12_picksOne_38 : decode cX12_picksOne 38 = .ok (.iload_n 1, 1) := by decide +kernel
theorem dX12_picksOne_39 : decode cX12_picksOne 39 = .ok (.iconst 2, 1) := by decide +kernel
theorem dX12_picksOne_40 : decode cX12_picksOne 40 = .ok (.if_icmp .ne 20, 3) := by decide +kernel
theorem dX12_picksOne_43 : decode cX12_picksOne 43 = .ok (.aload_n 0, 1) := by decide +kernel
theorem dX12_picksOne_44 : decode cX12_picksOne 44 = .ok (.iconst 1, 1) := by decide +kernel
theorem dX12_picksOne_45 : decode cX12_picksOne 45 = .ok (.aload_n 0, 1) := by decide +kernel
theorem dX12_picksOne_46 : decode cX12_picksOne 46 = .ok (.aload_n 0, 1) := by decide +kernel
theorem dX12_picksOne_47 : decode cX12_picksOne 47 = .ok (.getfield 98, 3) := by decide +kernel
theorem dX12_picksOne_50 : decode cX12_picksOne 50 = .ok (.iconst 0, 1) := by decide +kernel
theorem dX12_picksOne_51 : decode cX12_picksOne 51 = .ok (.iaload, 1) := by decide +kernel
theorem dX12_picksOne_52 : decode cX12_picksOne 52 = .ok (.invokevirtual 419, 3) := by decide +kernel
theorem dX12_picksOne_55 : decode cX12_picksOne 55 = .ok (.iconst 0, 1) := by decide +kernel
theorem dX12_picksOne_56 : decode cX12_picksOne 56 = .ok (.iconst 0, 1) := by decide +kernel
theorem dX12_picksOne_57 : decode cX12_picksOne 57 = .ok (.invokevirtual 422, 3) := by decide +kernel
theorem dX12_picksOne_60 : decode cX12_picksOne 60 = .ok (.iload_n 1, 1) := by decide +kernel
theorem dX12_picksOne_61 : decode cX12_picksOne 61 = .ok (.iconst 3, 1) := by decide +kernel
theorem dX12_picksOne_62 : decode cX12_picksOne 62 = .ok (.if_icmp .ne 11, 3) := by decide +kernel
theorem dX12_picksOne_65 : decode cX12_picksOne 65 = .ok (.aload_n 0, 1) := by decide +kernel
theorem dX12_picksOne_66 : decode cX12_picksOne 66 = .ok (.iconst 2, 1) := by decide +kernel
theorem dX12_picksOne_67 : decode cX12_picksOne 67 = .ok (.iconst 0, 1) := by decide +kernel
theorem dX12_picksOne_68 : decode cX12_picksOne 68 = .ok (.iconst 0, 1) := by decide +kernel
theorem dX12_picksOne_69 : decode cX12_picksOne 69 = .ok (.iconst 0, 1) := by decide +kernel
theorem dX12_picksOne_70 : decode cX12_picksOne 70 = .ok (.invokevirtual 422, 3) := by decide +kernel
theorem dX12_picksOne_73 : decode cX12_picksOne 73 = .ok (.iload_n 1, 1) := by decide +kernel
theorem dX12_picksOne_74 : decode cX12_picksOne 74 = .ok (.iconst 4, 1) := by decide +kernel
theorem dX12_picksOne_75 : decode cX12_picksOne 75 = .ok (.if_icmp .ne 40, 3) := by decide +kernel
theorem dX12_picksOne_78 : decode cX12_picksOne 78 = .ok (.aload_n 0, 1) := by decide +kernel
theorem dX12_picksOne_79 : decode cX12_picksOne 79 = .ok (.aload_n 0, 1) := by decide +kernel
theorem dX12_picksOne_80 : decode cX12_picksOne 80 = .ok (.getfield 98, 3) := by decide +kernel
theorem dX12_picksOne_83 : decode cX12_picksOne 83 = .ok (.iconst 1, 1) := by decide +kernel
theorem dX12_picksOne_84 : decode cX12_picksOne 84 = .ok (.iaload, 1) := by decide +kernel
theorem dX12_picksOne_85 : decode cX12_picksOne 85 = .ok (.invokevirtual 419, 3) := by decide +kernel
theorem dX12_picksOne_88 : decode cX12_picksOne 88 = .ok (.istore_n 2, 1) := by decide +kernel
theorem dX12_picksOne_89 : decode cX12_picksOne 89 = .ok (.aload_n 0, 1) := by decide +kernel
theorem dX12_picksOne_90 : decode cX12_picksOne 90 = .ok (.aload_n 0, 1) := by decide +kernel
theorem dX12_picksOne_91 : decode cX12_picksOne 91 = .ok (.getfield 98, 3) := by decide +kernel
theorem dX12_picksOne_94 : decode cX12_picksOne 94 = .ok (.iconst 1, 1) := by decide +kernel
theorem dX12_picksOne_95 : decode cX12_picksOne 95 = .ok (.iaload, 1) := by decide +kernel
theorem dX12_picksOne_96 : decode cX12_picksOne 96 = .ok (.invokevirtual 419, 3) := by decide +kernel
theorem dX12_picksOne_99 : decode cX12_picksOne 99 = .ok (.istore_n 3, 1) := by decide +kernel
theorem dX12_picksOne_100 : decode cX12_picksOne 100 = .ok (.aload_n 0, 1) := by decide +kernel
theorem dX12_picksOne_101 : decode cX12_picksOne 101 = .ok (.iconst 3, 1) := by decide +kernel
theorem dX12_picksOne_102 : decode cX12_picksOne 102 = .ok (.iload_n 2, 1) := by decide +kernel
theorem dX12_picksOne_103 : decode cX12_picksOne 103 = .ok (.iload_n 3, 1) := by decide +kernel
theorem dX12_picksOne_104 : decode cX12_picksOne 104 = .ok (.aload_n 0, 1) := by decide +kernel
theorem dX12_picksOne_105 : decode cX12_picksOne 105 = .ok (.bipush 20, 2) := by decide +kernel
theorem dX12_picksOne_107 : decode cX12_picksOne 107 = .ok (.invokevirtual 419, 3) := by decide +kernel
theorem dX12_picksOne_110 : decode cX12_picksOne 110 = .ok (.iconst 1, 1) := by decide +kernel
theorem dX12_picksOne_111 : decode cX12_picksOne 111 = .ok (.iadd, 1) := by decide +kernel
theorem dX12_picksOne_112 : decode cX12_picksOne 112 = .ok (.invokevirtual 422, 3) := by decide +kernel
theorem dX12_picksOne_115 : decode cX12_picksOne 115 = .ok (.return_, 1) := by decide +kernel
theorem dX12_pickYears_0 : decode cX12_pickYears 0 = .ok (.aload_n 0, 1) := by decide +kernel
theorem dX12_pickYears_1 : decode cX12_pickYears 1 = .ok (.iload_n 2, 1) := by decide +kernel
theorem dX12_pickYears_2 : decode cX12_pickYears 2 = .ok (.putfield 415, 3) := by decide +kernel
theorem dX12_pickYears_5 : decode cX12_pickYears 5 = .ok (.iload_n 1, 1) := by decide +kernel
theorem dX12_pickYears_6 : decode cX12_pickYears 6 = .ok (.bipush 39, 2) := by decide +kernel
theorem dX12_pickYears_8 : decode cX12_pickYears 8 = .ok (.aload_n 0, 1) := by decide +kernel
theorem dX12_pickYears_9 : decode cX12_pickYears 9 = .ok (.getfield 98, 3) := by decide +kernel
theorem dX12_pickYears_12 : decode cX12_pickYears 12 = .ok (.sipush 815, 3) := by decide +kernel
theorem dX12_pickYears_15 : decode cX12_pickYears 15 = .ok (.iaload, 1) := by decide +kernel
theorem dX12_pickYears_16 : decode cX12_pickYears 16 = .ok (.isub, 1) := by decide +kernel
theorem dX12_pickYears_17 : decode cX12_pickYears 17 = .ok (.invokestatic 349, 3) := by decide +kernel
theorem dX12_pickYears_20 : decode cX12_pickYears 20 = .ok (.istore_n 3, 1) := by decide +kernel
theorem dX12_pickYears_21 : decode cX12_pickYears 21 = .ok (.iconst 0, 1) := by decide +kernel
theorem dX12_pickYears_22 : decode cX12_pickYears 22 = .ok (.istore 4, 2) := by decide +kernel
theorem dX12_pickYears_24 : decode cX12_pickYears 24 = .ok (.iload 4, 2) := by decide +kernel
theorem dX12_pickYears_26 : decode cX12_pickYears 26 = .ok (.iload_n 3, 1) := by decide +kernel
theorem dX12_pickYears_27 : decode cX12_pickYears 27 = .ok (.if_icmp .ge 41, 3) := by decide +kernel
theorem dX12_pickYears_30 : decode cX12_pickYears 30 = .ok (.iconst 0, 1) := by decide +kernel
theorem dX12_pickYears_31 : decode cX12_pickYears 31 = .ok (.istore 5, 2) := by decide +kernel
theorem dX12_pickYears_33 : decode cX12_pickYears 33 = .ok (.iload 5, 2) := by decide +kernel
theorem dX12_pickYears_35 : decode cX12_pickYears 35 = .ok (.iconst 4, 1) := by decide +kernel
theorem dX12_pickYears_36 : decode cX12_pickYears 36 = .ok (.if_icmp .ge 22, 3) := by decide +kernel
theorem dX12_pickYears_39 : decode cX12_pickYears 39 = .ok (.aload_n 0, 1) := by decide +kernel
theorem dX12_pickYears_40 : decode cX12_pickYears 40 = .ok (.getfield 98, 3) := by decide +kernel
theorem dX12_pickYears_43 : decode cX12_pickYears 43 = .ok (.iconst 0, 1) := by decide +kernel
theorem dX12_pickYears_44 : decode cX12_pickYears 44 = .ok (.iaload, 1) := by decide +kernel
theorem dX12_pickYears_45 : decode cX12_pickYears 45 = .ok (.ifCond .le 13, 3) := by decide +kernel
theorem dX12_pickYears_48 : decode cX12_pickYears 48 = .ok (.aload_n 0, 1) := by decide +kernel
theorem dX12_pickYears_49 : decode cX12_pickYears 49 = .ok (.invokevirtual 425, 3) := by decide +kernel
theorem dX12_pickYears_52 : decode cX12_pickYears 52 = .ok (.iinc 5 1, 3) := by decide +kernel
theorem dX12_pickYears_55 : decode cX12_pickYears 55 = .ok (.goto (-22), 3) := by decide +kernel
theorem dX12_pickYears_58 : decode cX12_pickYears 58 = .ok (.aload_n 0, 1) := by decide +kernel
theorem dX12_pickYears_59 : decode cX12_pickYears 59 = .ok (.invokevirtual 352, 3) := by decide +kernel
theorem dX12_pickYears_62 : decode cX12_pickYears 62 = .ok (.iinc 4 1, 3) := by decide +kernel
theorem dX12_pickYears_65 : decode cX12_pickYears 65 = .ok (.goto (-41), 3) := by decide +kernel
theorem dX12_pickYears_68 : decode cX12_pickYears 68 = .ok (.iload_n 3, 1) := by decide +kernel
theorem dX12_pickYears_69 : decode cX12_pickYears 69 = .ok (.ireturn, 1) := by decide +kernel
theorem dX12_drawn_0 : decode cX12_drawn 0 = .ok (.aload_n 0, 1) := by decide +kernel
theorem dX12_drawn_1 : decode cX12_drawn 1 = .ok (.iconst 0, 1) := by decide +kernel
theorem dX12_drawn_2 : decode cX12_drawn 2 = .ok (.putfield 1, 3) := by decide +kernel
theorem dX12_drawn_5 : decode cX12_drawn 5 = .ok (.iload_n 1, 1) := by decide +kernel
theorem dX12_drawn_6 : decode cX12_drawn 6 = .ok (.iconst 1, 1) := by decide +kernel
theorem dX12_drawn_7 : decode cX12_drawn 7 = .ok (.bipush 39, 2) := by decide +kernel
theorem dX12_drawn_9 : decode cX12_drawn 9 = .ok (.invokestatic 75, 3) := by decide +kernel
theorem dX12_drawn_12 : decode cX12_drawn 12 = .ok (.ifCond .ne 5, 3) := by decide +kernel
theorem dX12_drawn_15 : decode cX12_drawn 15 = .ok (.iconst (-1), 1) := by decide +kernel
theorem dX12_drawn_16 : decode cX12_drawn 16 = .ok (.ireturn, 1) := by decide +kernel
theorem dX12_drawn_17 : decode cX12_drawn 17 = .ok (.aload_n 0, 1) := by decide +kernel
theorem dX12_drawn_18 : decode cX12_drawn 18 = .ok (.getfield 98, 3) := by decide +kernel
theorem dX12_drawn_21 : decode cX12_drawn 21 = .ok (.sipush 815, 3) := by decide +kernel
theorem dX12_drawn_24 : decode cX12_drawn 24 = .ok (.iaload, 1) := by decide +kernel
theorem dX12_drawn_25 : decode cX12_drawn 25 = .ok (.bipush 39, 2) := by decide +kernel
theorem dX12_drawn_27 : decode cX12_drawn 27 = .ok (.if_icmp .ne 5, 3) := by decide +kernel
theorem dX12_drawn_30 : decode cX12_drawn 30 = .ok (.iconst 0, 1) := by decide +kernel
theorem dX12_drawn_31 : decode cX12_drawn 31 = .ok (.ireturn, 1) := by decide +kernel
theorem dX12_drawn_32 : decode cX12_drawn 32 = .ok (.aload_n 0, 1) := by decide +kernel
theorem dX12_drawn_33 : decode cX12_drawn 33 = .ok (.invokevirtual 338, 3) := by decide +kernel
theorem dX12_drawn_36 : decode cX12_drawn 36 = .ok (.aload_n 0, 1) := by decide +kernel
theorem dX12_drawn_37 : decode cX12_drawn 37 = .ok (.iload_n 1, 1) := by decide +kernel
theorem dX12_drawn_38 : decode cX12_drawn 38 = .ok (.iload_n 2, 1) := by decide +kernel
theorem dX12_drawn_39 : decode cX12_drawn 39 = .ok (.invokevirtual 428, 3) := by decide +kernel
theorem dX12_drawn_42 : decode cX12_drawn 42 = .ok (.ireturn, 1) := by decide +kernel
theorem dX12_odds_0 : decode cX12_odds 0 = .ok (.aload_n 0, 1) := by decide +kernel
theorem dX12_odds_1 : decode cX12_odds 1 = .ok (.iconst 0, 1) := by decide +kernel
theorem dX12_odds_2 : decode cX12_odds 2 = .ok (.putfield 1, 3) := by decide +kernel
theorem dX12_odds_5 : decode cX12_odds 5 = .ok (.aload_n 0, 1) := by decide +kernel
theorem dX12_odds_6 : decode cX12_odds 6 = .ok (.iload_n 1, 1) := by decide +kernel
theorem dX12_odds_7 : decode cX12_odds 7 = .ok (.invokevirtual 266, 3) := by decide +kernel
theorem dX12_odds_10 : decode cX12_odds 10 = .ok (.ifCond .eq 13, 3) := by decide +kernel
theorem dX12_odds_13 : decode cX12_odds 13 = .ok (.iload_n 2, 1) := by decide +kernel
theorem dX12_odds_14 : decode cX12_odds 14 = .ok (.iconst 1, 1) := by decide +kernel
theorem dX12_odds_15 : decode cX12_odds 15 = .ok (.bipush 20, 2) := by decide +kernel
theorem dX12_odds_17 : decode cX12_odds 17 = .ok (.invokestatic 75, 3) := by decide +kernel
theorem dX12_odds_20 : decode cX12_odds 20 = .ok (.ifCond .ne 5, 3) := by decide +kernel
theorem dX12_odds_23 : decode cX12_odds 23 = .ok (.iconst (-1), 1) := by decide +kernel
theorem dX12_odds_24 : decode cX12_odds 24 = .ok (.ireturn, 1) := by decide +kernel
theorem dX12_odds_25 : decode cX12_odds 25 = .ok (.aload_n 0, 1) := by decide +kernel
theorem dX12_odds_26 : decode cX12_odds 26 = .ok (.invokevirtual 372, 3) := by decide +kernel
theorem dX12_odds_29 : decode cX12_odds 29 = .ok (.iconst 0, 1) := by decide +kernel
theorem dX12_odds_30 : decode cX12_odds 30 = .ok (.istore 4, 2) := by decide +kernel
theorem dX12_odds_32 : decode cX12_odds 32 = .ok (.iconst 0, 1) := by decide +kernel
theorem dX12_odds_33 : decode cX12_odds 33 = .ok (.istore 5, 2) := by decide +kernel
theorem dX12_odds_35 : decode cX12_odds 35 = .ok (.iload 5, 2) := by decide +kernel
theorem dX12_odds_37 : decode cX12_odds 37 = .ok (.iload_n 2, 1) := by decide +kernel
theorem dX12_odds_38 : decode cX12_odds 38 = .ok (.if_icmp .ge 34, 3) := by decide +kernel
theorem dX12_odds_41 : decode cX12_odds 41 = .ok (.aload_n 0, 1) := by decide +kernel
theorem dX12_odds_42 : decode cX12_odds 42 = .ok (.iconst 3, 1) := by decide +kernel
theorem dX12_odds_43 : decode cX12_odds 43 = .ok (.iload_n 3, 1) := by decide +kernel
theorem dX12_odds_44 : decode cX12_odds 44 = .ok (.iload 5, 2) := by decide +kernel
theorem dX12_odds_46 : decode cX12_odds 46 = .ok (.iadd, 1) := by decide +kernel
theorem dX12_odds_47 : decode cX12_odds 47 = .ok (.invokevirtual 428, 3) := by decide +kernel
theorem dX12_odds_50 : decode cX12_odds 50 = .ok (.pop, 1) := by decide +kernel
theorem dX12_odds_51 : decode cX12_odds 51 = .ok (.aload_n 0, 1) := by decide +kernel
theorem dX12_odds_52 : decode cX12_odds 52 = .ok (.iload_n 1, 1) := by decide +kernel
theorem dX12_odds_53 : decode cX12_odds 53 = .ok (.invokevirtual 260, 3) := by decide +kernel
theorem dX12_odds_56 : decode cX12_odds 56 = .ok (.ifCond .ne 6, 3) := by decide +kernel
theorem dX12_odds_59 : decode cX12_odds 59 = .ok (.iinc 4 1, 3) := by decide +kernel
theorem dX12_odds_62 : decode cX12_odds 62 = .ok (.aload_n 0, 1) := by decide +kernel
theorem dX12_odds_63 : decode cX12_odds 63 = .ok (.invokevirtual 375, 3) := by decide +kernel
theorem dX12_odds_66 : decode cX12_odds 66 = .ok (.iinc 5 1, 3) := by decide +kernel
theorem dX12_odds_69 : decode cX12_odds 69 = .ok (.goto (-34), 3) := by decide +kernel
theorem dX12_odds_72 : decode cX12_odds 72 = .ok (.iload 4, 2) := by decide +kernel
theorem dX12_odds_74 : decode cX12_odds 74 = .ok (.ireturn, 1) := by decide +kernel
theorem dX12_keep_0 : decode cX12_keep 0 = .ok (.iload_n 2, 1) := by decide +kernel
theorem dX12_keep_1 : decode cX12_keep 1 = .ok (.ifCond .eq 13, 3) := by decide +kernel
theorem dX12_keep_4 : decode cX12_keep 4 = .ok (.aload_n 0, 1) := by decide +kernel
theorem dX12_keep_5 : decode cX12_keep 5 = .ok (.getfield 166, 3) := by decide +kernel
theorem dX12_keep_8 : decode cX12_keep 8 = .ok (.iload_n 1, 1) := by decide +kernel
theorem dX12_keep_9 : decode cX12_keep 9 = .ok (.aload_n 0, 1) := by decide +kernel
theorem dX12_keep_10 : decode cX12_keep 10 = .ok (.getfield 79, 3) := by decide +kernel
theorem dX12_keep_13 : decode cX12_keep 13 = .ok (.iastore, 1) := by decide +kernel
theorem dX12_keep_14 : decode cX12_keep 14 = .ok (.iload_n 2, 1) := by decide +kernel
theorem dX12_keep_15 : decode cX12_keep 15 = .ok (.ireturn, 1) := by decide +kernel
theorem dX12_readScaleName_0 : decode cX12_readScaleName 0 = .ok (.aload_n 0, 1) := by decide +kernel
theorem dX12_readScaleName_1 : decode cX12_readScaleName 1 = .ok (.invokevirtual 182, 3) := by decide +kernel
theorem dX12_readScaleName_4 : decode cX12_readScaleName 4 = .ok (.ifCond .ne 9, 3) := by decide +kernel
theorem dX12_readScaleName_7 : decode cX12_readScaleName 7 = .ok (.aload_n 0, 1) := by decide +kernel
theorem dX12_readScaleName_8 : decode cX12_readScaleName 8 = .ok (.iconst 1, 1) := by decide +kernel
theorem dX12_readScaleName_9 : decode cX12_readScaleName 9 = .ok (.invokevirtual 72, 3) := by decide +kernel
theorem dX12_readScaleName_12 : decode cX12_readScaleName 12 = .ok (.ireturn, 1) := by decide +kernel
theorem dX12_readScaleName_13 : decode cX12_readScaleName 13 = .ok (.aload_n 0, 1) := by decide +kernel
theorem dX12_readScaleName_14 : decode cX12_readScaleName 14 = .ok (.aload_n 0, 1) := by decide +kernel
theorem dX12_readScaleName_15 : decode cX12_readScaleName 15 = .ok (.getfield 113, 3) := by decide +kernel
theorem dX12_readScaleName_18 : decode cX12_readScaleName 18 = .ok (.aload_n 0, 1) := by decide +kernel
theorem dX12_readScaleName_19 : decode cX12_readScaleName 19 = .ok (.getfield 98, 3) := by decide +kernel
theorem dX12_readScaleName_22 : decode cX12_readScaleName 22 = .ok (.iconst 0, 1) := by decide +kernel
theorem dX12_readScaleName_23 : decode cX12_readScaleName 23 = .ok (.iaload, 1) := by decide +kernel
theorem dX12_readScaleName_24 : decode cX12_readScaleName 24 = .ok (.aload_n 0, 1) := by decide +kernel
theorem dX12_readScaleName_25 : decode cX12_readScaleName 25 = .ok (.getfield 43, 3) := by decide +kernel
theorem dX12_readScaleName_28 : decode cX12_readScaleName 28 = .ok (.invokestatic 186, 3) := by decide +kernel
theorem dX12_readScaleName_31 : decode cX12_readScaleName 31 = .ok (.putfield 79, 3) := by decide +kernel
theorem dX12_readScaleName_34 : decode cX12_readScaleName 34 = .ok (.aload_n 0, 1) := by decide +kernel
theorem dX12_readScaleName_35 : decode cX12_readScaleName 35 = .ok (.getfield 79, 3) := by decide +kernel
theorem dX12_readScaleName_38 : decode cX12_readScaleName 38 = .ok (.iconst (-1), 1) := by decide +kernel
theorem dX12_readScaleName_39 : decode cX12_readScaleName 39 = .ok (.if_icmp .ne 9, 3) := by decide +kernel
theorem dX12_readScaleName_42 : decode cX12_readScaleName 42 = .ok (.aload_n 0, 1) := by decide +kernel
theorem dX12_readScaleName_43 : decode cX12_readScaleName 43 = .ok (.iconst 3, 1) := by decide +kernel
theorem dX12_readScaleName_44 : decode cX12_readScaleName 44 = .ok (.invokevirtual 72, 3) := by decide +kernel
theorem dX12_readScaleName_47 : decode cX12_readScaleName 47 = .ok (.ireturn, 1) := by decide +kernel
theorem dX12_readScaleName_48 : decode cX12_readScaleName 48 = .ok (.aload_n 0, 1) := by decide +kernel
theorem dX12_readScaleName_49 : decode cX12_readScaleName 49 = .ok (.invokevirtual 82, 3) := by decide +kernel
theorem dX12_readScaleName_52 : decode cX12_readScaleName 52 = .ok (.iconst 1, 1) := by decide +kernel
theorem dX12_readScaleName_53 : decode cX12_readScaleName 53 = .ok (.ireturn, 1) := by decide +kernel
theorem dX12_readCask_0 : decode cX12_readCask 0 = .ok (.aload_n 0, 1) := by decide +kernel
theorem dX12_readCask_1 : decode cX12_readCask 1 = .ok (.iload_n 1, 1) := by decide +kernel
theorem dX12_readCask_2 : decode cX12_readCask 2 = .ok (.aload_n 0, 1) := by decide +kernel
theorem dX12_readCask_3 : decode cX12_readCask 3 = .ok (.invokevirtual 431, 3) := by decide +kernel
theorem dX12_readCask_6 : decode cX12_readCask 6 = .ok (.invokevirtual 434, 3) := by decide +kernel
theorem dX12_readCask_9 : decode cX12_readCask 9 = .ok (.ifCond .eq 23, 3) := by decide +kernel
theorem dX12_readCask_12 : decode cX12_readCask 12 = .ok (.aload_n 0, 1) := by decide +kernel
theorem dX12_readCask_13 : decode cX12_readCask 13 = .ok (.iload_n 1, 1) := by decide +kernel
theorem dX12_readCask_14 : decode cX12_readCask 14 = .ok (.iconst 1, 1) := by decide +kernel
theorem dX12_readCask_15 : decode cX12_readCask 15 = .ok (.iadd, 1) := by decide +kernel
theorem dX12_readCask_16 : decode cX12_readCask 16 = .ok (.aload_n 0, 1) := by decide +kernel
theorem dX12_readCask_17 : decode cX12_readCask 17 = .ok (.iconst 0, 1) := by decide +kernel
theorem dX12_readCask_18 : decode cX12_readCask 18 = .ok (.iconst 3, 1) := by decide +kernel
theorem dX12_readCask_19 : decode cX12_readCask 19 = .ok (.invokevirtual 190, 3) := by decide +kernel
theorem dX12_readCask_22 : decode cX12_readCask 22 = .ok (.invokevirtual 434, 3) := by decide +kernel
theorem dX12_readCask_25 : decode cX12_readCask 25 = .ok (.ifCond .eq 7, 3) := by decide +kernel
theorem dX12_readCask_28 : decode cX12_readCask 28 = .ok (.iconst 1, 1) := by decide +kernel
theorem dX12_readCask_29 : decode cX12_readCask 29 = .ok (.goto 4, 3) := by decide +kernel
theorem dX12_readCask_32 : decode cX12_readCask 32 = .ok (.iconst 0, 1) := by decide +kernel
theorem dX12_readCask_33 : decode cX12_readCask 33 = .ok (.ireturn, 1) := by decide +kernel
theorem dX12_readBookLine_0 : decode cX12_readBookLine 0 = .ok (.aload_n 0, 1) := by decide +kernel
theorem dX12_readBookLine_1 : decode cX12_readBookLine 1 = .ok (.bipush 9, 2) := by decide +kernel
theorem dX12_readBookLine_3 : decode cX12_readBookLine 3 = .ok (.invokevirtual 218, 3) := by decide +kernel
theorem dX12_readBookLine_6 : decode cX12_readBookLine 6 = .ok (.ifCond .eq 7, 3) := by decide +kernel
theorem dX12_readBookLine_9 : decode cX12_readBookLine 9 = .ok (.iconst 4, 1) := by decide +kernel
theorem dX12_readBookLine_10 : decode cX12_readBookLine 10 = .ok (.goto 4, 3) := by decide +kernel
theorem dX12_readBookLine_13 : decode cX12_readBookLine 13 = .ok (.iconst (-1), 1) := by decide +kernel
theorem dX12_readBookLine_14 : decode cX12_readBookLine 14 = .ok (.istore_n 1, 1) := by decide +kernel
theorem dX12_readBookLine_15 : decode cX12_readBookLine 15 = .ok (.iconst 0, 1) := by decide +kernel
theorem dX12_readBookLine_16 : decode cX12_readBookLine 16 = .ok (.istore_n 2, 1) := by decide +kernel
theorem dX12_readBookLine_17 : decode cX12_readBookLine 17 = .ok (.iload_n 2, 1) := by decide +kernel
theorem dX12_readBookLine_18 : decode cX12_readBookLine 18 = .ok (.iconst 3, 1) := by decide +kernel
theorem dX12_readBookLine_19 : decode cX12_readBookLine 19 = .ok (.if_icmp .gt 21, 3) := by decide +kernel
theorem dX12_readBookLine_22 : decode cX12_readBookLine 22 = .ok (.aload_n 0, 1) := by decide +kernel
theorem dX12_readBookLine_23 : decode cX12_readBookLine 23 = .ok (.iconst 5, 1) := by decide +kernel
theorem dX12_readBookLine_24 : decode cX12_readBookLine 24 = .ok (.iload_n 2, 1) := by decide +kernel
theorem dX12_readBookLine_25 : decode cX12_readBookLine 25 = .ok (.iadd, 1) := by decide +kernel
theorem dX12_readBookLine_26 : decode cX12_readBookLine 26 = .ok (.invokevirtual 218, 3) := by decide +kernel
theorem dX12_readBookLine_29 : decode cX12_readBookLine 29 = .ok (.ifCond .eq 5, 3) := by decide +kernel
theorem dX12_readBookLine_32 : decode cX12_readBookLine 32 = .ok (.iload_n 2, 1) := by decide +kernel
theorem dX12_readBookLine_33 : decode cX12_readBookLine 33 = .ok (.istore_n 1, 1) := by decide +kernel
theorem dX12_readBookLine_34 : decode cX12_readBookLine 34 = .ok (.iinc 2 1, 3) := by decide +kernel
theorem dX12_readBookLine_37 : decode cX12_readBookLine 37 = .ok (.goto (-20), 3) := by decide +kernel
theorem dX12_readBookLine_40 : decode cX12_readBookLine 40 = .ok (.iload_n 1, 1) := by decide +kernel
theorem dX12_readBookLine_41 : decode cX12_readBookLine 41 = .ok (.iconst (-1), 1) := by decide +kernel
theorem dX12_readBookLine_42 : decode cX12_readBookLine 42 = .ok (.if_icmp .ne 9, 3) := by decide +kernel
theorem dX12_readBookLine_45 : decode cX12_readBookLine 45 = .ok (.aload_n 0, 1) := by decide +kernel
theorem dX12_readBookLine_46 : decode cX12_readBookLine 46 = .ok (.iconst 1, 1) := by decide +kernel
theorem dX12_readBookLine_47 : decode cX12_readBookLine 47 = .ok (.invokevirtual 72, 3) := by decide +kernel
theorem dX12_readBookLine_50 : decode cX12_readBookLine 50 = .ok (.ireturn, 1) := by decide +kernel
theorem dX12_readBookLine_51 : decode cX12_readBookLine 51 = .ok (.aload_n 0, 1) := by decide +kernel
theorem dX12_readBookLine_52 : decode cX12_readBookLine 52 = .ok (.getfield 437, 3) := by decide +kernel
theorem dX12_readBookLine_55 : decode cX12_readBookLine 55 = .ok (.bipush 40, 2) := by decide +kernel
theorem dX12_readBookLine_57 : decode cX12_readBookLine 57 = .ok (.if_icmp .ne 9, 3) := by decide +kernel
theorem dX12_readBookLine_60 : decode cX12_readBookLine 60 = .ok (.aload_n 0, 1) := by decide +kernel
theorem dX12_readBookLine_61 : decode cX12_readBookLine 61 = .ok (.iconst 4, 1) := by decide +kernel
theorem dX12_readBookLine_62 : decode cX12_readBookLine 62 = .ok (.invokevirtual 72, 3) := by decide +kernel
theorem dX12_readBookLine_65 : decode cX12_readBookLine 65 = .ok (.ireturn, 1) := by decide +kernel
theorem dX12_readBookLine_66 : decode cX12_readBookLine 66 = .ok (.bipush 6, 2) := by decide +kernel
theorem dX12_readBookLine_68 : decode cX12_readBookLine 68 = .ok (.aload_n 0, 1) := by decide +kernel
theorem dX12_readBookLine_69 : decode cX12_readBookLine 69 = .ok (.getfield 437, 3) := by decide +kernel
theorem dX12_readBookLine_72 : decode cX12_readBookLine 72 = .ok (.imul, 1) := by decide +kernel
theorem dX12_readBookLine_73 : decode cX12_readBookLine 73 = .ok (.istore_n 2, 1) := by decide +kernel
theorem dX12_readBookLine_74 : decode cX12_readBookLine 74 = .ok (.aload_n 0, 1) := by decide +kernel
theorem dX12_readBookLine_75 : decode cX12_readBookLine 75 = .ok (.getfield 166, 3) := by decide +kernel
theorem dX12_readBookLine_78 : decode cX12_readBookLine 78 = .ok (.iload_n 2, 1) := by decide +kernel
theorem dX12_readBookLine_79 : decode cX12_readBookLine 79 = .ok (.iload_n 1, 1) := by decide +kernel
theorem dX12_readBookLine_80 : decode cX12_readBookLine 80 = .ok (.iastore, 1) := by decide +kernel
theorem dX12_readBookLine_81 : decode cX12_readBookLine 81 = .ok (.aload_n 0, 1) := by decide +kernel
theorem dX12_readBookLine_82 : decode cX12_readBookLine 82 = .ok (.invokevirtual 82, 3) := by decide +kernel
theorem dX12_readBookLine_85 : decode cX12_readBookLine 85 = .ok (.iload_n 1, 1) := by decide +kernel
theorem dX12_readBookLine_86 : decode cX12_readBookLine 86 = .ok (.tableswitch 154 0 3 #[30, 71, 98, 103], 30) := by decide +kernel
theorem dX12_readBookLine_116 : decode cX12_readBookLine 116 = .ok (.aload_n 0, 1) := by decide +kernel
theorem dX12_readBookLine_117 : decode cX12_readBookLine 117 = .ok (.iload_n 2, 1) := by decide +kernel
theorem dX12_readBookLine_118 : decode cX12_readBookLine 118 = .ok (.iconst 1, 1) := by decide +kernel
theorem dX12_readBookLine_119 : decode cX12_readBookLine 119 = .ok (.iadd, 1) := by decide +kernel
theorem dX12_readBookLine_120 : decode cX12_readBookLine 120 = .ok (.invokevirtual 440, 3) := by decide +kernel
theorem dX12_readBookLine_123 : decode cX12_readBookLine 123 = .ok (.ifCond .eq 32, 3) := by decide +kernel
theorem dX12_readBookLine_126 : decode cX12_readBookLine 126 = .ok (.aload_n 0, 1) := by decide +kernel
theorem dX12_readBookLine_127 : decode cX12_readBookLine 127 = .ok (.iload_n 2, 1) := by decide +kernel
theorem dX12_readBookLine_128 : decode cX12_readBookLine 128 = .ok (.iconst 5, 1) := by decide +kernel
theorem dX12_readBookLine_129 : decode cX12_readBookLine 129 = .ok (.iadd, 1) := by decide +kernel
theorem dX12_readBookLine_130 : decode cX12_readBookLine 130 = .ok (.aload_n 0, 1) := by decide +kernel
theorem dX12_readBookLine_131 : decode cX12_readBookLine 131 = .ok (.iconst 1, 1) := by decide +kernel
theorem dX12_readBookLine_132 : decode cX12_readBookLine 132 = .ok (.sipush 400, 3) := by decide +kernel
theorem dX12_readBookLine_135 : decode cX12_readBookLine 135 = .ok (.invokevirtual 190, 3) := by decide +kernel
theorem dX12_readBookLine_138 : decode cX12_readBookLine 138 = .ok (.invokevirtual 434, 3) := by decide +kernel
theorem dX12_readBookLine_141 : decode cX12_readBookLine 141 = .ok (.ifCond .eq 14, 3) := by decide +kernel
theorem dX12_readBookLine_144 : decode cX12_readBookLine 144 = .ok (.aload_n 0, 1) := by decide +kernel
theorem dX12_readBookLine_145 : decode cX12_readBookLine 145 = .ok (.invokevirtual 242, 3) := by decide +kernel
theorem dX12_readBookLine_148 : decode cX12_readBookLine 148 = .ok (.ifCond .eq 7, 3) := by decide +kernel
theorem dX12_readBookLine_151 : decode cX12_readBookLine 151 = .ok (.iconst 1, 1) := by decide +kernel
theorem dX12_readBookLine_152 : decode cX12_readBookLine 152 = .ok (.goto 4, 3) := by decide +kernel
theorem dX12_readBookLine_155 : decode cX12_readBookLine 155 = .ok (.iconst 0, 1) := by decide +kernel
theorem dX12_readBookLine_156 : decode cX12_readBookLine 156 = .ok (.ireturn, 1) := by decide +kernel
theorem dX12_readBookLine_157 : decode cX12_readBookLine 157 = .ok (.aload_n 0, 1) := by decide +kernel
theorem dX12_readBookLine_158 : decode cX12_readBookLine 158 = .ok (.iload_n 2, 1) := by decide +kernel
theorem dX12_readBookLine_159 : decode cX12_readBookLine 159 = .ok (.iconst 1, 1) := by decide +kernel
theorem dX12_readBookLine_160 : decode cX12_readBookLine 160 = .ok (.iadd, 1) := by decide +kernel
theorem dX12_readBookLine_161 : decode cX12_readBookLine 161 = .ok (.aload_n 0, 1) := by decide +kernel
theorem dX12_readBookLine_162 : decode cX12_readBookLine 162 = .ok (.invokevirtual 431, 3) := by decide +kernel
theorem dX12_readBookLine_165 : decode cX12_readBookLine 165 = .ok (.invokevirtual 434, 3) := by decide +kernel
theorem dX12_readBookLine_168 : decode cX12_readBookLine 168 = .ok (.ifCond .eq 14, 3) := by decide +kernel
theorem dX12_readBookLine_171 : decode cX12_readBookLine 171 = .ok (.aload_n 0, 1) := by decide +kernel
theorem dX12_readBookLine_172 : decode cX12_readBookLine 172 = .ok (.invokevirtual 242, 3) := by decide +kernel
theorem dX12_readBookLine_175 : decode cX12_readBookLine 175 = .ok (.ifCond .eq 7, 3) := by decide +kernel
theorem dX12_readBookLine_178 : decode cX12_readBookLine 178 = .ok (.iconst 1, 1) := by decide +kernel
theorem dX12_readBookLine_179 : decode cX12_readBookLine 179 = .ok (.goto 4, 3) := by decide +kernel
theorem dX12_readBookLine_182 : decode cX12_readBookLine 182 = .ok (.iconst 0, 1) := by decide +kernel
theorem dX12_readBookLine_183 : decode cX12_readBookLine 183 = .ok (.ireturn, 1) := by decide +kernel
theorem dX12_readBookLine_184 : decode cX12_readBookLine 184 = .ok (.aload_n 0, 1) := by decide +kernel
theorem dX12_readBookLine_185 : decode cX12_readBookLine 185 = .ok (.invokevirtual 242, 3) := by decide +kernel
theorem dX12_readBookLine_188 : decode cX12_readBookLine 188 = .ok (.ireturn, 1) := by decide +kernel
theorem dX12_readBookLine_189 : decode cX12_readBookLine 189 = .ok (.aload_n 0, 1) := by decide +kernel
theorem dX12_readBookLine_190 : decode cX12_readBookLine 190 = .ok (.iload_n 2, 1) := by decide +kernel
theorem dX12_readBookLine_191 : decode cX12_readBookLine 191 = .ok (.iconst 1, 1) := by decide +kernel
theorem dX12_readBookLine_192 : decode cX12_readBookLine 192 = .ok (.iadd, 1) := by decide +kernel
theorem dX12_readBookLine_193 : decode cX12_readBookLine 193 = .ok (.invokevirtual 440, 3) := by decide +kernel
theorem dX12_readBookLine_196 : decode cX12_readBookLine 196 = .ok (.ifCond .eq 42, 3) := by decide +kernel
theorem dX12_readBookLine_199 : decode cX12_readBookLine 199 = .ok (.aload_n 0, 1) := by decide +kernel
theorem dX12_readBookLine_200 : decode cX12_readBookLine 200 = .ok (.iload_n 2, 1) := by decide +kernel
theorem dX12_readBookLine_201 : decode cX12_readBookLine 201 = .ok (.iconst 3, 1) := by decide +kernel
theorem dX12_readBookLine_202 : decode cX12_readBookLine 202 = .ok (.iadd, 1) := by decide +kernel
theorem dX12_readBookLine_203 : decode cX12_readBookLine 203 = .ok (.invokevirtual 440, 3) := by decide +kernel
theorem dX12_readBookLine_206 : decode cX12_readBookLine 206 = .ok (.ifCond .eq 32, 3) := by decide +kernel
theorem dX12_readBookLine_209 : decode cX12_readBookLine 209 = .ok (.aload_n 0, 1) := by decide +kernel
theorem dX12_readBookLine_210 : decode cX12_readBookLine 210 = .ok (.iload_n 2, 1) := by decide +kernel
theorem dX12_readBookLine_211 : decode cX12_readBookLine 211 = .ok (.iconst 5, 1) := by decide +kernel
theorem dX12_readBookLine_212 : decode cX12_readBookLine 212 = .ok (.iadd, 1) := by decide +kernel
theorem dX12_readBookLine_213 : decode cX12_readBookLine 213 = .ok (.aload_n 0, 1) := by decide +kernel
theorem dX12_readBookLine_214 : decode cX12_readBookLine 214 = .ok (.iconst 1, 1) := by decide +kernel
theorem dX12_readBookLine_215 : decode cX12_readBookLine 215 = .ok (.sipush 400, 3) := by decide +kernel
theorem dX12_readBookLine_218 : decode cX12_readBookLine 218 = .ok (.invokevirtual 190, 3) := by decide +kernel
theorem dX12_readBookLine_221 : decode cX12_readBookLine 221 = .ok (.invokevirtual 434, 3) := by decide +kernel
theorem dX12_readBookLine_224 : decode cX12_readBookLine 224 = .ok (.ifCond .eq 14, 3) := by decide +kernel
theorem dX12_readBookLine_227 : decode cX12_readBookLine 227 = .ok (.aload_n 0, 1) := by decide +kernel
theorem dX12_readBookLine_228 : decode cX12_readBookLine 228 = .ok (.invokevirtual 242, 3) := by decide +kernel
theorem dX12_readBookLine_231 : decode cX12_readBookLine 231 = .ok (.ifCond .eq 7, 3) := by decide +kernel
theorem dX12_readBookLine_234 : decode cX12_readBookLine 234 = .ok (.iconst 1, 1) := by decide +kernel
theorem dX12_readBookLine_235 : decode cX12_readBookLine 235 = .ok (.goto 4, 3) := by decide +kernel
theorem dX12_readBookLine_238 : decode cX12_readBookLine 238 = .ok (.iconst 0, 1) := by decide +kernel
theorem dX12_readBookLine_239 : decode cX12_readBookLine 239 = .ok (.ireturn, 1) := by decide +kernel
theorem dX12_readBookLine_240 : decode cX12_readBookLine 240 = .ok (.aload_n 0, 1) := by decide +kernel
theorem dX12_readBookLine_241 : decode cX12_readBookLine 241 = .ok (.iload_n 2, 1) := by decide +kernel
theorem dX12_readBookLine_242 : decode cX12_readBookLine 242 = .ok (.iconst 1, 1) := by decide +kernel
theorem dX12_readBookLine_243 : decode cX12_readBookLine 243 = .ok (.iadd, 1) := by decide +kernel
theorem dX12_readBookLine_244 : decode cX12_readBookLine 244 = .ok (.aload_n 0, 1) := by decide +kernel
theorem dX12_readBookLine_245 : decode cX12_readBookLine 245 = .ok (.iconst 1, 1) := by decide +kernel
theorem dX12_readBookLine_246 : decode cX12_readBookLine 246 = .ok (.bipush 39, 2) := by decide +kernel
theorem dX12_readBookLine_248 : decode cX12_readBookLine 248 = .ok (.invokevirtual 190, 3) := by decide +kernel
theorem dX12_readBookLine_251 : decode cX12_readBookLine 251 = .ok (.invokevirtual 434, 3) := by decide +kernel
theorem dX12_readBookLine_254 : decode cX12_readBookLine 254 = .ok (.ifCond .eq 14, 3) := by decide +kernel
theorem dX12_readBookLine_257 : decode cX12_readBookLine 257 = .ok (.aload_n 0, 1) := by decide +kernel
theorem dX12_readBookLine_258 : decode cX12_readBookLine 258 = .ok (.invokevirtual 242, 3) := by decide +kernel
theorem dX12_readBookLine_261 : decode cX12_readBookLine 261 = .ok (.ifCond .eq 7, 3) := by decide +kernel
theorem dX12_readBookLine_264 : decode cX12_readBookLine 264 = .ok (.iconst 1, 1) := by decide +kernel
theorem dX12_readBookLine_265 : decode cX12_readBookLine 265 = .ok (.goto 4, 3) := by decide +kernel
theorem dX12_readBookLine_268 : decode cX12_readBookLine 268 = .ok (.iconst 0, 1) := by decide +kernel
theorem dX12_readBookLine_269 : decode cX12_readBookLine 269 = .ok (.ireturn, 1) := by decide +kernel
theorem dX12_caskAt_0 : decode cX12_caskAt 0 = .ok (.aload_n 0, 1) := by decide +kernel
theorem dX12_caskAt_1 : decode cX12_caskAt 1 = .ok (.getfield 166, 3) := by decide +kernel
theorem dX12_caskAt_4 : decode cX12_caskAt 4 = .ok (.iload_n 1, 1) := by decide +kernel
theorem dX12_caskAt_5 : decode cX12_caskAt 5 = .ok (.iconst 1, 1) := by decide +kernel
theorem dX12_caskAt_6 : decode cX12_caskAt 6 = .ok (.iadd, 1) := by decide +kernel
theorem dX12_caskAt_7 : decode cX12_caskAt 7 = .ok (.iaload, 1) := by decide +kernel
theorem dX12_caskAt_8 : decode cX12_caskAt 8 = .ok (.aload_n 0, 1) := by decide +kernel
theorem dX12_caskAt_9 : decode cX12_caskAt 9 = .ok (.getfield 98, 3) := by decide +kernel
theorem dX12_caskAt_12 : decode cX12_caskAt 12 = .ok (.iconst 5, 1) := by decide +kernel
theorem dX12_caskAt_13 : decode cX12_caskAt 13 = .ok (.aload_n 0, 1) := by decide +kernel
theorem dX12_caskAt_14 : decode cX12_caskAt 14 = .ok (.getfield 166, 3) := by decide +kernel
theorem dX12_caskAt_17 : decode cX12_caskAt 17 = .ok (.iload_n 1, 1) := by decide +kernel
theorem dX12_caskAt_18 : decode cX12_caskAt 18 = .ok (.iaload, 1) := by decide +kernel
theorem dX12_caskAt_19 : decode cX12_caskAt 19 = .ok (.iadd, 1) := by decide +kernel
theorem dX12_caskAt_20 : decode cX12_caskAt 20 = .ok (.iaload, 1) := by decide +kernel
theorem dX12_caskAt_21 : decode cX12_caskAt 21 = .ok (.if_icmp .ge 28, 3) := by decide +kernel
theorem dX12_caskAt_24 : decode cX12_caskAt 24 = .ok (.aload_n 0, 1) := by decide +kernel
theorem dX12_caskAt_25 : decode cX12_caskAt 25 = .ok (.getfield 98, 3) := by decide +kernel
theorem dX12_caskAt_28 : decode cX12_caskAt 28 = .ok (.aload_n 0, 1) := by decide +kernel
theorem dX12_caskAt_29 : decode cX12_caskAt 29 = .ok (.getfield 166, 3) := by decide +kernel
theorem dX12_caskAt_32 : decode cX12_caskAt 32 = .ok (.iload_n 1, 1) := by decide +kernel
theorem dX12_caskAt_33 : decode cX12_caskAt 33 = .ok (.iaload, 1) := by decide +kernel
theorem dX12_caskAt_34 : decode cX12_caskAt 34 = .ok (.invokestatic 202, 3) := by decide +kernel
theorem dX12_caskAt_37 : decode cX12_caskAt 37 = .ok (.aload_n 0, 1) := by decide +kernel
theorem dX12_caskAt_38 : decode cX12_caskAt 38 = .ok (.getfield 166, 3) := by decide +kernel
theorem dX12_caskAt_41 : decode cX12_caskAt 41 = .ok (.iload_n 1, 1) := by decide +kernel
theorem dX12_caskAt_42 : decode cX12_caskAt 42 = .ok (.iconst 1, 1) := by decide +kernel
theorem dX12_caskAt_43 : decode cX12_caskAt 43 = .ok (.iadd, 1) := by decide +kernel
theorem dX12_caskAt_44 : decode cX12_caskAt 44 = .ok (.iaload, 1) := by decide +kernel
theorem dX12_caskAt_45 : decode cX12_caskAt 45 = .ok (.iadd, 1) := by decide +kernel
theorem dX12_caskAt_46 : decode cX12_caskAt 46 = .ok (.goto 4, 3) := by decide +kernel
theorem dX12_caskAt_49 : decode cX12_caskAt 49 = .ok (.iconst (-1), 1) := by decide +kernel
theorem dX12_caskAt_50 : decode cX12_caskAt 50 = .ok (.ireturn, 1) := by decide +kernel
theorem dX12_goBy_0 : decode cX12_goBy 0 = .ok (.aload_n 0, 1) := by decide +kernel
theorem dX12_goBy_1 : decode cX12_goBy 1 = .ok (.getfield 166, 3) := by decide +kernel
theorem dX12_goBy_4 : decode cX12_goBy 4 = .ok (.iload_n 1, 1) := by decide +kernel
theorem dX12_goBy_5 : decode cX12_goBy 5 = .ok (.iaload, 1) := by decide +kernel
theorem dX12_goBy_6 : decode cX12_goBy 6 = .ok (.istore_n 2, 1) := by decide +kernel
theorem dX12_goBy_7 : decode cX12_goBy 7 = .ok (.iload_n 2, 1) := by decide +kernel
theorem dX12_goBy_8 : decode cX12_goBy 8 = .ok (.iconst 4, 1) := by decide +kernel
theorem dX12_goBy_9 : decode cX12_goBy 9 = .ok (.if_icmp .ne 43, 3) := by decide +kernel
theorem dX12_goBy_12 : decode cX12_goBy 12 = .ok (.aload_n 0, 1) := by decide +kernel
theorem dX12_goBy_13 : decode cX12_goBy 13 = .ok (.getfield 98, 3) := by decide +kernel
theorem dX12_goBy_16 : decode cX12_goBy 16 = .ok (.sipush 815, 3) := by decide +kernel
theorem dX12_goBy_19 : decode cX12_goBy 19 = .ok (.iaload, 1) := by decide +kernel
theorem dX12_goBy_20 : decode cX12_goBy 20 = .ok (.aload_n 0, 1) := by decide +kernel
theorem dX12_goBy_21 : decode cX12_goBy 21 = .ok (.getfield 166, 3) := by decide +kernel
theorem dX12_goBy_24 : decode cX12_goBy 24 = .ok (.iload_n 1, 1) := by decide +kernel
theorem dX12_goBy_25 : decode cX12_goBy 25 = .ok (.iconst 1, 1) := by decide +kernel
theorem dX12_goBy_26 : decode cX12_goBy 26 = .ok (.iadd, 1) := by decide +kernel
theorem dX12_goBy_27 : decode cX12_goBy 27 = .ok (.iaload, 1) := by decide +kernel
theorem dX12_goBy_28 : decode cX12_goBy 28 = .ok (.iadd, 1) := by decide +kernel
theorem dX12_goBy_29 : decode cX12_goBy 29 = .ok (.bipush 39, 2) := by decide +kernel
theorem dX12_goBy_31 : decode cX12_goBy 31 = .ok (.if_icmp .le 6, 3) := by decide +kernel
theorem dX12_goBy_34 : decode cX12_goBy 34 = .ok (.bipush 41, 2) := by decide +kernel
theorem dX12_goBy_36 : decode cX12_goBy 36 = .ok (.ireturn, 1) := by decide +kernel
theorem dX12_goBy_37 : decode cX12_goBy 37 = .ok (.aload_n 0, 1) := by decide +kernel
theorem dX12_goBy_38 : decode cX12_goBy 38 = .ok (.aload_n 0, 1) := by decide +kernel
theorem dX12_goBy_39 : decode cX12_goBy 39 = .ok (.getfield 166, 3) := by decide +kernel
theorem dX12_goBy_42 : decode cX12_goBy 42 = .ok (.iload_n 1, 1) := by decide +kernel
theorem dX12_goBy_43 : decode cX12_goBy 43 = .ok (.iconst 1, 1) := by decide +kernel
theorem dX12_goBy_44 : decode cX12_goBy 44 = .ok (.iadd, 1) := by decide +kernel
theorem dX12_goBy_45 : decode cX12_goBy 45 = .ok (.iaload, 1) := by decide +kernel
theorem dX12_goBy_46 : decode cX12_goBy 46 = .ok (.invokevirtual 355, 3) := by decide +kernel
theorem dX12_goBy_49 : decode cX12_goBy 49 = .ok (.pop, 1) := by decide +kernel
theorem dX12_goBy_50 : decode cX12_goBy 50 = .ok (.iconst 0, 1) := by decide +kernel
theorem dX12_goBy_51 : decode cX12_goBy 51 = .ok (.ireturn, 1) := by decide +kernel
theorem dX12_goBy_52 : decode cX12_goBy 52 = .ok (.iload_n 2, 1) := by decide +kernel
theorem dX12_goBy_53 : decode cX12_goBy 53 = .ok (.iconst 1, 1) := by decide +kernel
theorem dX12_goBy_54 : decode cX12_goBy 54 = .ok (.if_icmp .ne 14, 3) := by decide +kernel
theorem dX12_goBy_57 : decode cX12_goBy 57 = .ok (.aload_n 0, 1) := by decide +kernel
theorem dX12_goBy_58 : decode cX12_goBy 58 = .ok (.getfield 166, 3) := by decide +kernel
theorem dX12_goBy_61 : decode cX12_goBy 61 = .ok (.iload_n 1, 1) := by decide +kernel
theorem dX12_goBy_62 : decode cX12_goBy 62 = .ok (.iconst 1, 1) := by decide +kernel
theorem dX12_goBy_63 : decode cX12_goBy 63 = .ok (.iadd, 1) := by decide +kernel
theorem dX12_goBy_64 : decode cX12_goBy 64 = .ok (.iaload, 1) := by decide +kernel
theorem dX12_goBy_65 : decode cX12_goBy 65 = .ok (.goto 19, 3) := by decide +kernel
theorem dX12_goBy_68 : decode cX12_goBy 68 = .ok (.iload_n 2, 1) := by decide +kernel
theorem dX12_goBy_69 : decode cX12_goBy 69 = .ok (.iconst 2, 1) := by decide +kernel
theorem dX12_goBy_70 : decode cX12_goBy 70 = .ok (.if_icmp .ne 7, 3) := by decide +kernel
theorem dX12_goBy_73 : decode cX12_goBy 73 = .ok (.iconst 0, 1) := by decide +kernel
theorem dX12_goBy_74 : decode cX12_goBy 74 = .ok (.goto 10, 3) := by decide +kernel
theorem dX12_goBy_77 : decode cX12_goBy 77 = .ok (.aload_n 0, 1) := by decide +kernel
theorem dX12_goBy_78 : decode cX12_goBy 78 = .ok (.iload_n 1, 1) := by decide +kernel
theorem dX12_goBy_79 : decode cX12_goBy 79 = .ok (.iconst 1, 1) := by decide +kernel
theorem dX12_goBy_80 : decode cX12_goBy 80 = .ok (.iadd, 1) := by decide +kernel
theorem dX12_goBy_81 : decode cX12_goBy 81 = .ok (.invokevirtual 443, 3) := by decide +kernel
theorem dX12_goBy_84 : decode cX12_goBy 84 = .ok (.istore_n 3, 1) := by decide +kernel
theorem dX12_goBy_85 : decode cX12_goBy 85 = .ok (.iload_n 2, 1) := by decide +kernel
theorem dX12_goBy_86 : decode cX12_goBy 86 = .ok (.iconst 3, 1) := by decide +kernel
theorem dX12_goBy_87 : decode cX12_goBy 87 = .ok (.if_icmp .ne 13, 3) := by decide +kernel
theorem dX12_goBy_90 : decode cX12_goBy 90 = .ok (.aload_n 0, 1) := by decide +kernel
theorem dX12_goBy_91 : decode cX12_goBy 91 = .ok (.iload_n 1, 1) := by decide +kernel
theorem dX12_goBy_92 : decode cX12_goBy 92 = .ok (.iconst 3, 1) := by decide +kernel
theorem dX12_goBy_93 : decode cX12_goBy 93 = .ok (.iadd, 1) := by decide +kernel
theorem dX12_goBy_94 : decode cX12_goBy 94 = .ok (.invokevirtual 443, 3) := by decide +kernel
theorem dX12_goBy_97 : decode cX12_goBy 97 = .ok (.goto 4, 3) := by decide +kernel
theorem dX12_goBy_100 : decode cX12_goBy 100 = .ok (.iconst 0, 1) := by decide +kernel
theorem dX12_goBy_101 : decode cX12_goBy 101 = .ok (.istore 4, 2) := by decide +kernel
theorem dX12_goBy_103 : decode cX12_goBy 103 = .ok (.iload_n 3, 1) := by decide +kernel
theorem dX12_goBy_104 : decode cX12_goBy 104 = .ok (.iconst (-1), 1) := by decide +kernel
theorem dX12_goBy_105 : decode cX12_goBy 105 = .ok (.if_icmp .eq 9, 3) := by decide +kernel
theorem dX12_goBy_108 : decode cX12_goBy 108 = .ok (.iload 4, 2) := by decide +kernel
theorem dX12_goBy_110 : decode cX12_goBy 110 = .ok (.iconst (-1), 1) := by decide +kernel
theorem dX12_goBy_111 : decode cX12_goBy 111 = .ok (.if_icmp .ne 11, 3) := by decide +kernel
theorem dX12_goBy_114 : decode cX12_goBy 114 = .ok (.bipush 10, 2) := by decide +kernel
theorem dX12_goBy_116 : decode cX12_goBy 116 = .ok (.iload_n 2, 1) := by decide +kernel
theorem dX12_goBy_117 : decode cX12_goBy 117 = .ok (.imul, 1) := by decide +kernel
theorem dX12_goBy_118 : decode cX12_goBy 118 = .ok (.bipush 9, 2) := by decide +kernel
theorem dX12_goBy_120 : decode cX12_goBy 120 = .ok (.iadd, 1) := by decide +kernel
theorem dX12_goBy_121 : decode cX12_goBy 121 = .ok (.ireturn, 1) := by decide +kernel
theorem dX12_goBy_122 : decode cX12_goBy 122 = .ok (.aload_n 0, 1) := by decide +kernel
theorem dX12_goBy_123 : decode cX12_goBy 123 = .ok (.iload_n 2, 1) := by decide +kernel
theorem dX12_goBy_124 : decode cX12_goBy 124 = .ok (.iload_n 3, 1) := by decide +kernel
theorem dX12_goBy_125 : decode cX12_goBy 125 = .ok (.iload 4, 2) := by decide +kernel
theorem dX12_goBy_127 : decode cX12_goBy 127 = .ok (.aload_n 0, 1) := by decide +kernel
theorem dX12_goBy_128 : decode cX12_goBy 128 = .ok (.getfield 166, 3) := by decide +kernel
theorem dX12_goBy_131 : decode cX12_goBy 131 = .ok (.iload_n 1, 1) := by decide +kernel
theorem dX12_goBy_132 : decode cX12_goBy 132 = .ok (.iconst 5, 1) := by decide +kernel
theorem dX12_goBy_133 : decode cX12_goBy 133 = .ok (.iadd, 1) := by decide +kernel
theorem dX12_goBy_134 : decode cX12_goBy 134 = .ok (.iaload, 1) := by decide +kernel
theorem dX12_goBy_135 : decode cX12_goBy 135 = .ok (.invokevirtual 334, 3) := by decide +kernel
theorem dX12_goBy_138 : decode cX12_goBy 138 = .ok (.istore 5, 2) := by decide +kernel
theorem dX12_goBy_140 : decode cX12_goBy 140 = .ok (.iload 5, 2) := by decide +kernel
theorem dX12_goBy_142 : decode cX12_goBy 142 = .ok (.ifCond .eq 11, 3) := by decide +kernel
theorem dX12_goBy_145 : decode cX12_goBy 145 = .ok (.bipush 10, 2) := by decide +kernel
theorem dX12_goBy_147 : decode cX12_goBy 147 = .ok (.iload_n 2, 1) := by decide +kernel
theorem dX12_goBy_148 : decode cX12_goBy 148 = .ok (.imul, 1) := by decide +kernel
theorem dX12_goBy_149 : decode cX12_goBy 149 = .ok (.iload 5, 2) := by decide +kernel
theorem dX12_goBy_151 : decode cX12_goBy 151 = .ok (.iadd, 1) := by decide +kernel
theorem dX12_goBy_152 : decode cX12_goBy 152 = .ok (.ireturn, 1) := by decide +kernel
theorem dX12_goBy_153 : decode cX12_goBy 153 = .ok (.aload_n 0, 1) := by decide +kernel
theorem dX12_goBy_154 : decode cX12_goBy 154 = .ok (.iload_n 2, 1) := by decide +kernel
theorem dX12_goBy_155 : decode cX12_goBy 155 = .ok (.iload_n 3, 1) := by decide +kernel
theorem dX12_goBy_156 : decode cX12_goBy 156 = .ok (.iload 4, 2) := by decide +kernel
theorem dX12_goBy_158 : decode cX12_goBy 158 = .ok (.aload_n 0, 1) := by decide +kernel
theorem dX12_goBy_159 : decode cX12_goBy 159 = .ok (.getfield 166, 3) := by decide +kernel
theorem dX12_goBy_162 : decode cX12_goBy 162 = .ok (.iload_n 1, 1) := by decide +kernel
theorem dX12_goBy_163 : decode cX12_goBy 163 = .ok (.iconst 5, 1) := by decide +kernel
theorem dX12_goBy_164 : decode cX12_goBy 164 = .ok (.iadd, 1) := by decide +kernel
theorem dX12_goBy_165 : decode cX12_goBy 165 = .ok (.iaload, 1) := by decide +kernel
theorem dX12_goBy_166 : decode cX12_goBy 166 = .ok (.invokevirtual 341, 3) := by decide +kernel
theorem dX12_goBy_169 : decode cX12_goBy 169 = .ok (.iconst 0, 1) := by decide +kernel
theorem dX12_goBy_170 : decode cX12_goBy 170 = .ok (.ireturn, 1) := by decide +kernel
theorem dX12_book_0 : decode cX12_book 0 = .ok (.aload_n 0, 1) := by decide +kernel
theorem dX12_book_1 : decode cX12_book 1 = .ok (.iconst 0, 1) := by decide +kernel
theorem dX12_book_2 : decode cX12_book 2 = .ok (.putfield 1, 3) := by decide +kernel
theorem dX12_book_5 : decode cX12_book 5 = .ok (.iload_n 1, 1) := by decide +kernel
theorem dX12_book_6 : decode cX12_book 6 = .ok (.iconst 0, 1) := by decide +kernel
theorem dX12_book_7 : decode cX12_book 7 = .ok (.iconst 1, 1) := by decide +kernel
theorem dX12_book_8 : decode cX12_book 8 = .ok (.invokestatic 75, 3) := by decide +kernel
theorem dX12_book_11 : decode cX12_book 11 = .ok (.ifCond .ne 7, 3) := by decide +kernel
theorem dX12_book_14 : decode cX12_book 14 = .ok (.sipush (-1000), 3) := by decide +kernel
theorem dX12_book_17 : decode cX12_book 17 = .ok (.ireturn, 1) := by decide +kernel
theorem dX12_book_18 : decode cX12_book 18 = .ok (.aload_n 0, 1) := by decide +kernel
theorem dX12_book_19 : decode cX12_book 19 = .ok (.sipush 400, 3) := by decide +kernel
theorem dX12_book_22 : decode cX12_book 22 = .ok (.invokevirtual 236, 3) := by decide +kernel
theorem dX12_book_25 : decode cX12_book 25 = .ok (.aload_n 0, 1) := by decide +kernel
theorem dX12_book_26 : decode cX12_book 26 = .ok (.iconst 0, 1) := by decide +kernel
theorem dX12_book_27 : decode cX12_book 27 = .ok (.putfield 437, 3) := by decide +kernel
theorem dX12_book_30 : decode cX12_book 30 = .ok (.aload_n 0, 1) := by decide +kernel
theorem dX12_book_31 : decode cX12_book 31 = .ok (.getfield 30, 3) := by decide +kernel
theorem dX12_book_34 : decode cX12_book 34 = .ok (.ifCond .eq 31, 3) := by decide +kernel
theorem dX12_book_37 : decode cX12_book 37 = .ok (.aload_n 0, 1) := by decide +kernel
theorem dX12_book_38 : decode cX12_book 38 = .ok (.invokevirtual 446, 3) := by decide +kernel
theorem dX12_book_41 : decode cX12_book 41 = .ok (.ifCond .ne 11, 3) := by decide +kernel
theorem dX12_book_44 : decode cX12_book 44 = .ok (.bipush (-2), 2) := by decide +kernel
theorem dX12_book_46 : decode cX12_book 46 = .ok (.aload_n 0, 1) := by decide +kernel
theorem dX12_book_47 : decode cX12_book 47 = .ok (.getfield 69, 3) := by decide +kernel
theorem dX12_book_50 : decode cX12_book 50 = .ok (.isub, 1) := by decide +kernel
theorem dX12_book_51 : decode cX12_book 51 = .ok (.ireturn, 1) := by decide +kernel
theorem dX12_book_52 : decode cX12_book 52 = .ok (.aload_n 0, 1) := by decide +kernel
theorem dX12_book_53 : decode cX12_book 53 = .ok (.dup, 1) := by decide +kernel
theorem dX12_book_54 : decode cX12_book 54 = .ok (.getfield 437, 3) := by decide +kernel
theorem dX12_book_57 : decode cX12_book 57 = .ok (.iconst 1, 1) := by decide +kernel
theorem dX12_book_58 : decode cX12_book 58 = .ok (.iadd, 1) := by decide +kernel
theorem dX12_book_59 : decode cX12_book 59 = .ok (.putfield 437, 3) := by decide +kernel
theorem dX12_book_62 : decode cX12_book 62 = .ok (.goto (-32), 3) := by decide +kernel
theorem dX12_book_65 : decode cX12_book 65 = .ok (.aload_n 0, 1) := by decide +kernel
theorem dX12_book_66 : decode cX12_book 66 = .ok (.invokevirtual 372, 3) := by decide +kernel
theorem dX12_book_69 : decode cX12_book 69 = .ok (.iconst 0, 1) := by decide +kernel
theorem dX12_book_70 : decode cX12_book 70 = .ok (.istore_n 2, 1) := by decide +kernel
theorem dX12_book_71 : decode cX12_book 71 = .ok (.iconst 0, 1) := by decide +kernel
theorem dX12_book_72 : decode cX12_book 72 = .ok (.istore_n 3, 1) := by decide +kernel
theorem dX12_book_73 : decode cX12_book 73 = .ok (.iload_n 2, 1) := by decide +kernel
theorem dX12_book_74 : decode cX12_book 74 = .ok (.aload_n 0, 1) := by decide +kernel
theorem dX12_book_75 : decode cX12_book 75 = .ok (.getfield 437, 3) := by decide +kernel
theorem dX12_book_78 : decode cX12_book 78 = .ok (.if_icmp .ge 26, 3) := by decide +kernel
theorem dX12_book_81 : decode cX12_book 81 = .ok (.iload_n 3, 1) := by decide +kernel
theorem dX12_book_82 : decode cX12_book 82 = .ok (.ifCond .ne 22, 3) := by decide +kernel
theorem dX12_book_85 : decode cX12_book 85 = .ok (.aload_n 0, 1) := by decide +kernel
theorem dX12_book_86 : decode cX12_book 86 = .ok (.bipush 6, 2) := by decide +kernel
theorem dX12_book_88 : decode cX12_book 88 = .ok (.iload_n 2, 1) := by decide +kernel
theorem dX12_book_89 : decode cX12_book 89 = .ok (.imul, 1) := by decide +kernel
theorem dX12_book_90 : decode cX12_book 90 = .ok (.invokevirtual 449, 3) := by decide +kernel
theorem dX12_book_93 : decode cX12_book 93 = .ok (.istore_n 3, 1) := by decide +kernel
theorem dX12_book_94 : decode cX12_book 94 = .ok (.iload_n 3, 1) := by decide +kernel
theorem dX12_book_95 : decode cX12_book 95 = .ok (.ifCond .ne (-22), 3) := by decide +kernel
theorem dX12_book_98 : decode cX12_book 98 = .ok (.iinc 2 1, 3) := by decide +kernel
theorem dX12_book_101 : decode cX12_book 101 = .ok (.goto (-28), 3) := by decide +kernel
theorem dX12_book_104 : decode cX12_book 104 = .ok (.aload_n 0, 1) := by decide +kernel
theorem dX12_book_105 : decode cX12_book 105 = .ok (.getfield 169, 3) := by decide +kernel
theorem dX12_book_108 : decode cX12_book 108 = .ok (.iconst 0, 1) := by decide +kernel
theorem dX12_book_109 : decode cX12_book 109 = .ok (.iload_n 3, 1) := by decide +kernel
theorem dX12_book_110 : decode cX12_book 110 = .ok (.iastore, 1) := by decide +kernel
theorem dX12_book_111 : decode cX12_book 111 = .ok (.aload_n 0, 1) := by decide +kernel
theorem dX12_book_112 : decode cX12_book 112 = .ok (.getfield 169, 3) := by decide +kernel
theorem dX12_book_115 : decode cX12_book 115 = .ok (.iconst 1, 1) := by decide +kernel
theorem dX12_book_116 : decode cX12_book 116 = .ok (.iload_n 2, 1) := by decide +kernel
theorem dX12_book_117 : decode cX12_book 117 = .ok (.iastore, 1) := by decide +kernel
theorem dX12_book_118 : decode cX12_book 118 = .ok (.aload_n 0, 1) := by decide +kernel
theorem dX12_book_119 : decode cX12_book 119 = .ok (.getfield 169, 3) := by decide +kernel
theorem dX12_book_122 : decode cX12_book 122 = .ok (.iconst 2, 1) := by decide +kernel
theorem dX12_book_123 : decode cX12_book 123 = .ok (.aload_n 0, 1) := by decide +kernel
theorem dX12_book_124 : decode cX12_book 124 = .ok (.getfield 98, 3) := by decide +kernel
theorem dX12_book_127 : decode cX12_book 127 = .ok (.sipush 815, 3) := by decide +kernel
theorem dX12_book_130 : decode cX12_book 130 = .ok (.iaload, 1) := by decide +kernel
theorem dX12_book_131 : decode cX12_book 131 = .ok (.iastore, 1) := by decide +kernel
theorem dX12_book_132 : decode cX12_book 132 = .ok (.aload_n 0, 1) := by decide +kernel
theorem dX12_book_133 : decode cX12_book 133 = .ok (.getfield 169, 3) := by decide +kernel
theorem dX12_book_136 : decode cX12_book 136 = .ok (.iconst 3, 1) := by decide +kernel
theorem dX12_book_137 : decode cX12_book 137 = .ok (.aload_n 0, 1) := by decide +kernel
theorem dX12_book_138 : decode cX12_book 138 = .ok (.invokevirtual 293, 3) := by decide +kernel
theorem dX12_book_141 : decode cX12_book 141 = .ok (.iastore, 1) := by decide +kernel
theorem dX12_book_142 : decode cX12_book 142 = .ok (.aload_n 0, 1) := by decide +kernel
theorem dX12_book_143 : decode cX12_book 143 = .ok (.iconst 1, 1) := by decide +kernel
theorem dX12_book_144 : decode cX12_book 144 = .ok (.putfield 452, 3) := by decide +kernel
theorem dX12_book_147 : decode cX12_book 147 = .ok (.aload_n 0, 1) := by decide +kernel
theorem dX12_book_148 : decode cX12_book 148 = .ok (.iload_n 1, 1) := by decide +kernel
theorem dX12_book_149 : decode cX12_book 149 = .ok (.iconst 1, 1) := by decide +kernel
theorem dX12_book_150 : decode cX12_book 150 = .ok (.if_icmp .ne 11, 3) := by decide +kernel
theorem dX12_book_153 : decode cX12_book 153 = .ok (.iload_n 2, 1) := by decide +kernel
theorem dX12_book_154 : decode cX12_book 154 = .ok (.ifCond .le 7, 3) := by decide +kernel
theorem dX12_book_157 : decode cX12_book 157 = .ok (.iconst 1, 1) := by decide +kernel
theorem dX12_book_158 : decode cX12_book 158 = .ok (.goto 4, 3) := by decide +kernel
theorem dX12_book_161 : decode cX12_book 161 = .ok (.iconst 0, 1) := by decide +kernel
theorem dX12_book_162 : decode cX12_book 162 = .ok (.invokevirtual 455, 3) := by decide +kernel
theorem dX12_book_165 : decode cX12_book 165 = .ok (.iload_n 3, 1) := by decide +kernel
theorem dX12_book_166 : decode cX12_book 166 = .ok (.ifCond .ne 7, 3) := by decide +kernel
theorem dX12_book_169 : decode cX12_book 169 = .ok (.iconst (-1), 1) := by decide +kernel
theorem dX12_book_170 : decode cX12_book 170 = .ok (.goto 4, 3) := by decide +kernel
theorem dX12_book_173 : decode cX12_book 173 = .ok (.iload_n 2, 1) := by decide +kernel
theorem dX12_book_174 : decode cX12_book 174 = .ok (.ireturn, 1) := by decide +kernel
theorem dX12_stay_0 : decode cX12_stay 0 = .ok (.iconst 0, 1) := by decide +kernel
theorem dX12_stay_1 : decode cX12_stay 1 = .ok (.istore_n 2, 1) := by decide +kernel
theorem dX12_stay_2 : decode cX12_stay 2 = .ok (.iload_n 2, 1) := by decide +kernel
theorem dX12_stay_3 : decode cX12_stay 3 = .ok (.sipush 863, 3) := by decide +kernel
theorem dX12_stay_6 : decode cX12_stay 6 = .ok (.if_icmp .ge 43, 3) := by decide +kernel
theorem dX12_stay_9 : decode cX12_stay 9 = .ok (.aload_n 0, 1) := by decide +kernel
theorem dX12_stay_10 : decode cX12_stay 10 = .ok (.getfield 98, 3) := by decide +kernel
theorem dX12_stay_13 : decode cX12_stay 13 = .ok (.sipush 815, 3) := by decide +kernel
theorem dX12_stay_16 : decode cX12_stay 16 = .ok (.iload_n 2, 1) := by decide +kernel
theorem dX12_stay_17 : decode cX12_stay 17 = .ok (.iadd, 1) := by decide +kernel
theorem dX12_stay_18 : decode cX12_stay 18 = .ok (.iaload, 1) := by decide +kernel
theorem dX12_stay_19 : decode cX12_stay 19 = .ok (.istore_n 3, 1) := by decide +kernel
theorem dX12_stay_20 : decode cX12_stay 20 = .ok (.aload_n 0, 1) := by decide +kernel
theorem dX12_stay_21 : decode cX12_stay 21 = .ok (.getfield 98, 3) := by decide +kernel
theorem dX12_stay_24 : decode cX12_stay 24 = .ok (.sipush 815, 3) := by decide +kernel
theorem dX12_stay_27 : decode cX12_stay 27 = .ok (.iload_n 2, 1) := by decide +kernel
theorem dX12_stay_28 : decode cX12_stay 28 = .ok (.iadd, 1) := by decide +kernel
theorem dX12_stay_29 : decode cX12_stay 29 = .ok (.aload_n 0, 1) := by decide +kernel
theorem dX12_stay_30 : decode cX12_stay 30 = .ok (.getfield 110, 3) := by decide +kernel
theorem dX12_stay_33 : decode cX12_stay 33 = .ok (.iload_n 2, 1) := by decide +kernel
theorem dX12_stay_34 : decode cX12_stay 34 = .ok (.iaload, 1) := by decide +kernel
theorem dX12_stay_35 : decode cX12_stay 35 = .ok (.iastore, 1) := by decide +kernel
theorem dX12_stay_36 : decode cX12_stay 36 = .ok (.aload_n 0, 1) := by decide +kernel
theorem dX12_stay_37 : decode cX12_stay 37 = .ok (.getfield 110, 3) := by decide +kernel
theorem dX12_stay_40 : decode cX12_stay 40 = .ok (.iload_n 2, 1) := by decide +kernel
theorem dX12_stay_41 : decode cX12_stay 41 = .ok (.iload_n 3, 1) := by decide +kernel
theorem dX12_stay_42 : decode cX12_stay 42 = .ok (.iastore, 1) := by decide +kernel
theorem dX12_stay_43 : decode cX12_stay 43 = .ok (.iinc 2 1, 3) := by decide +kernel
theorem dX12_stay_46 : decode cX12_stay 46 = .ok (.goto (-44), 3) := by decide +kernel
theorem dX12_stay_49 : decode cX12_stay 49 = .ok (.iload_n 1, 1) := by decide +kernel
theorem dX12_stay_50 : decode cX12_stay 50 = .ok (.ifCond .ne 4, 3) := by decide +kernel
theorem dX12_stay_53 : decode cX12_stay 53 = .ok (.return_, 1) := by decide +kernel
theorem dX12_stay_54 : decode cX12_stay 54 = .ok (.aload_n 0, 1) := by decide +kernel
theorem dX12_stay_55 : decode cX12_stay 55 = .ok (.invokevirtual 338, 3) := by decide +kernel
theorem dX12_stay_58 : decode cX12_stay 58 = .ok (.aload_n 0, 1) := by decide +kernel
theorem dX12_stay_59 : decode cX12_stay 59 = .ok (.invokevirtual 375, 3) := by decide +kernel
theorem dX12_stay_62 : decode cX12_stay 62 = .ok (.return_, 1) := by decide +kernel
theorem dX12_told_0 : decode cX12_told 0 = .ok (.aload_n 0, 1) := by decide +kernel
theorem dX12_told_1 : decode cX12_told 1 = .ok (.iconst 0, 1) := by decide +kernel
theorem dX12_told_2 : decode cX12_told 2 = .ok (.putfield 1, 3) := by decide +kernel
theorem dX12_told_5 : decode cX12_told 5 = .ok (.aload_n 0, 1) := by decide +kernel
theorem dX12_told_6 : decode cX12_told 6 = .ok (.getfield 452, 3) := by decide +kernel
theorem dX12_told_9 : decode cX12_told 9 = .ok (.ifCond .eq 21, 3) := by decide +kernel
theorem dX12_told_12 : decode cX12_told 12 = .ok (.iload_n 1, 1) := by decide +kernel
theorem dX12_told_13 : decode cX12_told 13 = .ok (.iconst 0, 1) := by decide +kernel
theorem dX12_told_14 : decode cX12_told 14 = .ok (.iconst 3, 1) := by decide +kernel
theorem dX12_told_15 : decode cX12_told 15 = .ok (.invokestatic 75, 3) := by decide +kernel
theorem dX12_told_18 : decode cX12_told 18 = .ok (.ifCond .eq 12, 3) := by decide +kernel
theorem dX12_told_21 : decode cX12_told 21 = .ok (.aload_n 0, 1) := by decide +kernel
theorem dX12_told_22 : decode cX12_told 22 = .ok (.getfield 169, 3) := by decide +kernel
theorem dX12_told_25 : decode cX12_told 25 = .ok (.iload_n 1, 1) := by decide +kernel
theorem dX12_told_26 : decode cX12_told 26 = .ok (.iaload, 1) := by decide +kernel
theorem dX12_told_27 : decode cX12_told 27 = .ok (.goto 4, 3) := by decide +kernel
theorem dX12_told_30 : decode cX12_told 30 = .ok (.iconst (-1), 1) := by decide +kernel
theorem dX12_told_31 : decode cX12_told 31 = .ok (.ireturn, 1) := by decide +kernel
theorem dX12_readThat_0 : decode cX12_readThat 0 = .ok (.iload_n 1, 1) := by decide +kernel
theorem dX12_readThat_1 : decode cX12_readThat 1 = .ok (.bipush 16, 2) := by decide +kernel
theorem dX12_readThat_3 : decode cX12_readThat 3 = .ok (.if_icmp .ne 10, 3) := by decide +kernel
theorem dX12_readThat_6 : decode cX12_readThat 6 = .ok (.aload_n 0, 1) := by decide +kernel
theorem dX12_readThat_7 : decode cX12_readThat 7 = .ok (.invokevirtual 431, 3) := by decide +kernel
theorem dX12_readThat_10 : decode cX12_readThat 10 = .ok (.goto 10, 3) := by decide +kernel
theorem dX12_readThat_13 : decode cX12_readThat 13 = .ok (.aload_n 0, 1) := by decide +kernel
theorem dX12_readThat_14 : decode cX12_readThat 14 = .ok (.iconst 0, 1) := by decide +kernel
theorem dX12_readThat_15 : decode cX12_readThat 15 = .ok (.bipush 39, 2) := by decide +kernel
theorem dX12_readThat_17 : decode cX12_readThat 17 = .ok (.invokevirtual 190, 3) := by decide +kernel
theorem dX12_readThat_20 : decode cX12_readThat 20 = .ok (.ireturn, 1) := by decide +kernel
theorem dX12_ageWhole_0 : decode cX12_ageWhole 0 = .ok (.aload_n 0, 1) := by decide +kernel
theorem dX12_ageWhole_1 : decode cX12_ageWhole 1 = .ok (.iload_n 1, 1) := by decide +kernel
theorem dX12_ageWhole_2 : decode cX12_ageWhole 2 = .ok (.invokevirtual 257, 3) := by decide +kernel
theorem dX12_ageWhole_5 : decode cX12_ageWhole 5 = .ok (.ifCond .ne 7, 3) := by decide +kernel
theorem dX12_ageWhole_8 : decode cX12_ageWhole 8 = .ok (.iconst 0, 1) := by decide +kernel
theorem dX12_ageWhole_9 : decode cX12_ageWhole 9 = .ok (.goto 14, 3) := by decide +kernel
theorem dX12_ageWhole_12 : decode cX12_ageWhole 12 = .ok (.aload_n 0, 1) := by decide +kernel
theorem dX12_ageWhole_13 : decode cX12_ageWhole 13 = .ok (.iload_n 1, 1) := by decide +kernel
theorem dX12_ageWhole_14 : decode cX12_ageWhole 14 = .ok (.invokevirtual 263, 3) := by decide +kernel
theorem dX12_ageWhole_17 : decode cX12_ageWhole 17 = .ok (.aload_n 0, 1) := by decide +kernel
theorem dX12_ageWhole_18 : decode cX12_ageWhole 18 = .ok (.iload_n 1, 1) := by decide +kernel
theorem dX12_ageWhole_19 : decode cX12_ageWhole 19 = .ok (.invokevirtual 257, 3) := by decide +kernel
theorem dX12_ageWhole_22 : decode cX12_ageWhole 22 = .ok (.idiv, 1) := by decide +kernel
theorem dX12_ageWhole_23 : decode cX12_ageWhole 23 = .ok (.ireturn, 1) := by decide +kernel
theorem dX12_saysOne_0 : decode cX12_saysOne 0 = .ok (.iconst 4, 1) := by decide +kernel
theorem dX12_saysOne_1 : decode cX12_saysOne 1 = .ok (.aload_n 0, 1) := by decide +kernel
theorem dX12_saysOne_2 : decode cX12_saysOne 2 = .ok (.getfield 459, 3) := by decide +kernel
theorem dX12_saysOne_5 : decode cX12_saysOne 5 = .ok (.imul, 1) := by decide +kernel
theorem dX12_saysOne_6 : decode cX12_saysOne 6 = .ok (.istore 5, 2) := by decide +kernel
theorem dX12_saysOne_8 : decode cX12_saysOne 8 = .ok (.aload_n 0, 1) := by decide +kernel
theorem dX12_saysOne_9 : decode cX12_saysOne 9 = .ok (.getfield 172, 3) := by decide +kernel
theorem dX12_saysOne_12 : decode cX12_saysOne 12 = .ok (.iload 5, 2) := by decide +kernel
theorem dX12_saysOne_14 : decode cX12_saysOne 14 = .ok (.iload_n 1, 1) := by decide +kernel
theorem dX12_saysOne_15 : decode cX12_saysOne 15 = .ok (.iastore, 1) := by decide +kernel
theorem dX12_saysOne_16 : decode cX12_saysOne 16 = .ok (.aload_n 0, 1) := by decide +kernel
theorem dX12_saysOne_17 : decode cX12_saysOne 17 = .ok (.getfield 172, 3) := by decide +kernel
theorem dX12_saysOne_20 : decode cX12_saysOne 20 = .ok (.iload 5, 2) := by decide +kernel
theorem dX12_saysOne_22 : decode cX12_saysOne 22 = .ok (.iconst 1, 1) := by decide +kernel
theorem dX12_saysOne_23 : decode cX12_saysOne 23 = .ok (.iadd, 1) := by decide +kernel
theorem dX12_saysOne_24 : decode cX12_saysOne 24 = .ok (.iload_n 2, 1) := by decide +kernel
theorem dX12_saysOne_25 : decode cX12_saysOne 25 = .ok (.iastore, 1) := by decide +kernel
theorem dX12_saysOne_26 : decode cX12_saysOne 26 = .ok (.aload_n 0, 1) := by decide +kernel
theorem dX12_saysOne_27 : decode cX12_saysOne 27 = .ok (.getfield 172, 3) := by decide +kernel
theorem dX12_saysOne_30 : decode cX12_saysOne 30 = .ok (.iload 5, 2) := by decide +kernel
theorem dX12_saysOne_32 : decode cX12_saysOne 32 = .ok (.iconst 2, 1) := by decide +kernel
theorem dX12_saysOne_33 : decode cX12_saysOne 33 = .ok (.iadd, 1) := by decide +kernel
theorem dX12_saysOne_34 : decode cX12_saysOne 34 = .ok (.iload_n 3, 1) := by decide +kernel
theorem dX12_saysOne_35 : decode cX12_saysOne 35 = .ok (.iastore, 1) := by decide +kernel
theorem dX12_saysOne_36 : decode cX12_saysOne 36 = .ok (.aload_n 0, 1) := by decide +kernel
theorem dX12_saysOne_37 : decode cX12_saysOne 37 = .ok (.getfield 172, 3) := by decide +kernel
theorem dX12_saysOne_40 : decode cX12_saysOne 40 = .ok (.iload 5, 2) := by decide +kernel
theorem dX12_saysOne_42 : decode cX12_saysOne 42 = .ok (.iconst 3, 1) := by decide +kernel
theorem dX12_saysOne_43 : decode cX12_saysOne 43 = .ok (.iadd, 1) := by decide +kernel
theorem dX12_saysOne_44 : decode cX12_saysOne 44 = .ok (.iload 4, 2) := by decide +kernel
theorem dX12_saysOne_46 : decode cX12_saysOne 46 = .ok (.iastore, 1) := by decide +kernel
theorem dX12_saysOne_47 : decode cX12_saysOne 47 = .ok (.aload_n 0, 1) := by decide +kernel
theorem dX12_saysOne_48 : decode cX12_saysOne 48 = .ok (.dup, 1) := by decide +kernel
theorem dX12_saysOne_49 : decode cX12_saysOne 49 = .ok (.getfield 459, 3) := by decide +kernel
theorem dX12_saysOne_52 : decode cX12_saysOne 52 = .ok (.iconst 1, 1) := by decide +kernel
theorem dX12_saysOne_53 : decode cX12_saysOne 53 = .ok (.iadd, 1) := by decide +kernel
theorem dX12_saysOne_54 : decode cX12_saysOne 54 = .ok (.putfield 459, 3) := by decide +kernel
theorem dX12_saysOne_57 : decode cX12_saysOne 57 = .ok (.aload_n 0, 1) := by decide +kernel
theorem dX12_saysOne_58 : decode cX12_saysOne 58 = .ok (.getfield 459, 3) := by decide +kernel
theorem dX12_saysOne_61 : decode cX12_saysOne 61 = .ok (.iconst 1, 1) := by decide +kernel
theorem dX12_saysOne_62 : decode cX12_saysOne 62 = .ok (.isub, 1) := by decide +kernel
theorem dX12_saysOne_63 : decode cX12_saysOne 63 = .ok (.ireturn, 1) := by decide +kernel
theorem dX12_readOr_0 : decode cX12_readOr 0 = .ok (.aload_n 0, 1) := by decide +kernel
theorem dX12_readOr_1 : decode cX12_readOr 1 = .ok (.invokevirtual 462, 3) := by decide +kernel
theorem dX12_readOr_4 : decode cX12_readOr 4 = .ok (.ifCond .ne 5, 3) := by decide +kernel
theorem dX12_readOr_7 : decode cX12_readOr 7 = .ok (.iconst 0, 1) := by decide +kernel
theorem dX12_readOr_8 : decode cX12_readOr 8 = .ok (.ireturn, 1) := by decide +kernel
theorem dX12_readOr_9 : decode cX12_readOr 9 = .ok (.aload_n 0, 1) := by decide +kernel
theorem dX12_readOr_10 : decode cX12_readOr 10 = .ok (.getfield 465, 3) := by decide +kernel
theorem dX12_readOr_13 : decode cX12_readOr 13 = .ok (.istore_n 1, 1) := by decide +kernel
theorem dX12_readOr_14 : decode cX12_readOr 14 = .ok (.aload_n 0, 1) := by decide +kernel
theorem dX12_readOr_15 : decode cX12_readOr 15 = .ok (.bipush 10, 2) := by decide +kernel
theorem dX12_readOr_17 : decode cX12_readOr 17 = .ok (.invokevirtual 218, 3) := by decide +kernel
theorem dX12_readOr_20 : decode cX12_readOr 20 = .ok (.ifCond .eq 31, 3) := by decide +kernel
theorem dX12_readOr_23 : decode cX12_readOr 23 = .ok (.aload_n 0, 1) := by decide +kernel
theorem dX12_readOr_24 : decode cX12_readOr 24 = .ok (.invokevirtual 82, 3) := by decide +kernel
theorem dX12_readOr_27 : decode cX12_readOr 27 = .ok (.aload_n 0, 1) := by decide +kernel
theorem dX12_readOr_28 : decode cX12_readOr 28 = .ok (.invokevirtual 462, 3) := by decide +kernel
theorem dX12_readOr_31 : decode cX12_readOr 31 = .ok (.ifCond .ne 5, 3) := by decide +kernel
theorem dX12_readOr_34 : decode cX12_readOr 34 = .ok (.iconst 0, 1) := by decide +kernel
theorem dX12_readOr_35 : decode cX12_readOr 35 = .ok (.ireturn, 1) := by decide +kernel
theorem dX12_readOr_36 : decode cX12_readOr 36 = .ok (.aload_n 0, 1) := by decide +kernel
theorem dX12_readOr_37 : decode cX12_readOr 37 = .ok (.iconst 3, 1) := by decide +kernel
theorem dX12_readOr_38 : decode cX12_readOr 38 = .ok (.iload_n 1, 1) := by decide +kernel
theorem dX12_readOr_39 : decode cX12_readOr 39 = .ok (.aload_n 0, 1) := by decide +kernel
theorem dX12_readOr_40 : decode cX12_readOr 40 = .ok (.getfield 465, 3) := by decide +kernel
theorem dX12_readOr_43 : decode cX12_readOr 43 = .ok (.iconst 0, 1) := by decide +kernel
theorem dX12_readOr_44 : decode cX12_readOr 44 = .ok (.invokevirtual 468, 3) := by decide +kernel
theorem dX12_readOr_47 : decode cX12_readOr 47 = .ok (.istore_n 1, 1) := by decide +kernel
theorem dX12_readOr_48 : decode cX12_readOr 48 = .ok (.goto (-34), 3) := by decide +kernel
theorem dX12_readOr_51 : decode cX12_readOr 51 = .ok (.aload_n 0, 1) := by decide +kernel
theorem dX12_readOr_52 : decode cX12_readOr 52 = .ok (.iload_n 1, 1) := by decide +kernel
theorem dX12_readOr_53 : decode cX12_readOr 53 = .ok (.putfield 465, 3) := by decide +kernel
theorem dX12_readOr_56 : decode cX12_readOr 56 = .ok (.iconst 1, 1) := by decide +kernel
theorem dX12_readOr_57 : decode cX12_readOr 57 = .ok (.ireturn, 1) := by decide +kernel
theorem dX12_readAnd_0 : decode cX12_readAnd 0 = .ok (.aload_n 0, 1) := by decide +kernel
theorem dX12_readAnd_1 : decode cX12_readAnd 1 = .ok (.invokevirtual 471, 3) := by decide +kernel
theorem dX12_readAnd_4 : decode cX12_readAnd 4 = .ok (.ifCond .ne 5, 3) := by decide +kernel
theorem dX12_readAnd_7 : decode cX12_readAnd 7 = .ok (.iconst 0, 1) := by decide +kernel
theorem dX12_readAnd_8 : decode cX12_readAnd 8 = .ok (.ireturn, 1) := by decide +kernel
theorem dX12_readAnd_9 : decode cX12_readAnd 9 = .ok (.aload_n 0, 1) := by decide +kernel
theorem dX12_readAnd_10 : decode cX12_readAnd 10 = .ok (.getfield 465, 3) := by decide +kernel
theorem dX12_readAnd_13 : decode cX12_readAnd 13 = .ok (.istore_n 1, 1) := by decide +kernel
theorem dX12_readAnd_14 : decode cX12_readAnd 14 = .ok (.aload_n 0, 1) := by decide +kernel
theorem dX12_readAnd_15 : decode cX12_readAnd 15 = .ok (.bipush 11, 2) := by decide +kernel
theorem dX12_readAnd_17 : decode cX12_readAnd 17 = .ok (.invokevirtual 218, 3) := by decide +kernel
theorem dX12_readAnd_20 : decode cX12_readAnd 20 = .ok (.ifCond .eq 31, 3) := by decide +kernel
theorem dX12_readAnd_23 : decode cX12_readAnd 23 = .ok (.aload_n 0, 1) := by decide +kernel
theorem dX12_readAnd_24 : decode cX12_readAnd 24 = .ok (.invokevirtual 82, 3) := by decide +kernel
theorem dX12_readAnd_27 : decode cX12_readAnd 27 = .ok (.aload_n 0, 1) := by decide +kernel
theorem dX12_readAnd_28 : decode cX12_readAnd 28 = .ok (.invokevirtual 471, 3) := by decide +kernel
theorem dX12_readAnd_31 : decode cX12_readAnd 31 = .ok (.ifCond .ne 5, 3) := by decide +kernel
theorem dX12_readAnd_34 : decode cX12_readAnd 34 = .ok (.iconst 0, 1) := by decide +kernel
theorem dX12_readAnd_35 : decode cX12_readAnd 35 = .ok (.ireturn, 1) := by decide +kernel
theorem dX12_readAnd_36 : decode cX12_readAnd 36 = .ok (.aload_n 0, 1) := by decide +kernel
theorem dX12_readAnd_37 : decode cX12_readAnd 37 = .ok (.iconst 2, 1) := by decide +kernel
theorem dX12_readAnd_38 : decode cX12_readAnd 38 = .ok (.iload_n 1, 1) := by decide +kernel
theorem dX12_readAnd_39 : decode cX12_readAnd 39 = .ok (.aload_n 0, 1) := by decide +kernel
theorem dX12_readAnd_40 : decode cX12_readAnd 40 = .ok (.getfield 465, 3) := by decide +kernel
theorem dX12_readAnd_43 : decode cX12_readAnd 43 = .ok (.iconst 0, 1) := by decide +kernel
theorem dX12_readAnd_44 : decode cX12_readAnd 44 = .ok (.invokevirtual 468, 3) := by decide +kernel
theorem dX12_readAnd_47 : decode cX12_readAnd 47 = .ok (.istore_n 1, 1) := by decide +kernel
theorem dX12_readAnd_48 : decode cX12_readAnd 48 = .ok (.goto (-34), 3) := by decide +kernel
theorem dX12_readAnd_51 : decode cX12_readAnd 51 = .ok (.aload_n 0, 1) := by decide +kernel
theorem dX12_readAnd_52 : decode cX12_readAnd 52 = .ok (.iload_n 1, 1) := by decide +kernel
theorem dX12_readAnd_53 : decode cX12_readAnd 53 = .ok (.putfield 465, 3) := by decide +kernel
theorem dX12_readAnd_56 : decode cX12_readAnd 56 = .ok (.iconst 1, 1) := by decide +kernel
theorem dX12_readAnd_57 : decode cX12_readAnd 57 = .ok (.ireturn, 1) := by decide +kernel
theorem dX12_readSaid_0 : decode cX12_readSaid 0 = .ok (.aload_n 0, 1) := by decide +kernel
theorem dX12_readSaid_1 : decode cX12_readSaid 1 = .ok (.bipush 40, 2) := by decide +kernel
theorem dX12_readSaid_3 : decode cX12_readSaid 3 = .ok (.invokevirtual 86, 3) := by decide +kernel
theorem dX12_readSaid_6 : decode cX12_readSaid 6 = .ok (.istore_n 1, 1) := by decide +kernel
theorem dX12_readSaid_7 : decode cX12_readSaid 7 = .ok (.bipush 12, 2) := by decide +kernel
theorem dX12_readSaid_9 : decode cX12_readSaid 9 = .ok (.istore_n 2, 1) := by decide +kernel
theorem dX12_readSaid_10 : decode cX12_readSaid 10 = .ok (.iload_n 2, 1) := by decide +kernel
theorem dX12_readSaid_11 : decode cX12_readSaid 11 = .ok (.bipush 21, 2) := by decide +kernel
theorem dX12_readSaid_13 : decode cX12_readSaid 13 = .ok (.if_icmp .gt 17, 3) := by decide +kernel
theorem dX12_readSaid_16 : decode cX12_readSaid 16 = .ok (.aload_n 0, 1) := by decide +kernel
theorem dX12_readSaid_17 : decode cX12_readSaid 17 = .ok (.iload_n 2, 1) := by decide +kernel
theorem dX12_readSaid_18 : decode cX12_readSaid 18 = .ok (.invokevirtual 218, 3) := by decide +kernel
theorem dX12_readSaid_21 : decode cX12_readSaid 21 = .ok (.ifCond .ne 9, 3) := by decide +kernel
theorem dX12_readSaid_24 : decode cX12_readSaid 24 = .ok (.iinc 2 1, 3) := by decide +kernel
theorem dX12_readSaid_27 : decode cX12_readSaid 27 = .ok (.goto (-17), 3) := by decide +kernel
theorem dX12_readSaid_30 : decode cX12_readSaid 30 = .ok (.iload_n 1, 1) := by decide +kernel
theorem dX12_readSaid_31 : decode cX12_readSaid 31 = .ok (.ifCond .ne 15, 3) := by decide +kernel
theorem dX12_readSaid_34 : decode cX12_readSaid 34 = .ok (.iload_n 2, 1) := by decide +kernel
theorem dX12_readSaid_35 : decode cX12_readSaid 35 = .ok (.bipush 21, 2) := by decide +kernel
theorem dX12_readSaid_37 : decode cX12_readSaid 37 = .ok (.if_icmp .le 9, 3) := by decide +kernel
theorem dX12_readSaid_40 : decode cX12_readSaid 40 = .ok (.aload_n 0, 1) := by decide +kernel
theorem dX12_readSaid_41 : decode cX12_readSaid 41 = .ok (.iconst 1, 1) := by decide +kernel
theorem dX12_readSaid_42 : decode cX12_readSaid 42 = .ok (.invokevirtual 72, 3) := by decide +kernel
theorem dX12_readSaid_45 : decode cX12_readSaid 45 = .ok (.ireturn, 1) := by decide +kernel
theorem dX12_readSaid_46 : decode cX12_readSaid 46 = .ok (.aload_n 0, 1) := by decide +kernel
theorem dX12_readSaid_47 : decode cX12_readSaid 47 = .ok (.getfield 474, 3) := by decide +kernel
theorem dX12_readSaid_50 : decode cX12_readSaid 50 = .ok (.bipush 20, 2) := by decide +kernel
theorem dX12_readSaid_52 : decode cX12_readSaid 52 = .ok (.if_icmp .eq 12, 3) := by decide +kernel
theorem dX12_readSaid_55 : decode cX12_readSaid 55 = .ok (.aload_n 0, 1) := by decide +kernel
theorem dX12_readSaid_56 : decode cX12_readSaid 56 = .ok (.getfield 477, 3) := by decide +kernel
theorem dX12_readSaid_59 : decode cX12_readSaid 59 = .ok (.bipush 8, 2) := by decide +kernel
theorem dX12_readSaid_61 : decode cX12_readSaid 61 = .ok (.if_icmp .ne 9, 3) := by decide +kernel
theorem dX12_readSaid_64 : decode cX12_readSaid 64 = .ok (.aload_n 0, 1) := by decide +kernel
theorem dX12_readSaid_65 : decode cX12_readSaid 65 = .ok (.iconst 4, 1) := by decide +kernel
theorem dX12_readSaid_66 : decode cX12_readSaid 66 = .ok (.invokevirtual 72, 3) := by decide +kernel
theorem dX12_readSaid_69 : decode cX12_readSaid 69 = .ok (.ireturn, 1) := by decide +kernel
theorem dX12_readSaid_70 : decode cX12_readSaid 70 = .ok (.aload_n 0, 1) := by decide +kernel
theorem dX12_readSaid_71 : decode cX12_readSaid 71 = .ok (.dup, 1) := by decide +kernel
theorem dX12_readSaid_72 : decode cX12_readSaid 72 = .ok (.getfield 474, 3) := by decide +kernel
theorem dX12_readSaid_75 : decode cX12_readSaid 75 = .ok (.iconst 1, 1) := by decide +kernel
theorem dX12_readSaid_76 : decode cX12_readSaid 76 = .ok (.iadd, 1) := by decide +kernel
theorem dX12_readSaid_77 : decode cX12_readSaid 77 = .ok (.putfield 474, 3) := by decide +kernel
theorem dX12_readSaid_80 : decode cX12_readSaid 80 = .ok (.aload_n 0, 1) := by decide +kernel
theorem dX12_readSaid_81 : decode cX12_readSaid 81 = .ok (.dup, 1) := by decide +kernel
theorem dX12_readSaid_82 : decode cX12_readSaid 82 = .ok (.getfield 477, 3) := by decide +kernel
theorem dX12_readSaid_85 : decode cX12_readSaid 85 = .ok (.iconst 1, 1) := by decide +kernel
theorem dX12_readSaid_86 : decode cX12_readSaid 86 = .ok (.iadd, 1) := by decide +kernel
theorem dX12_readSaid_87 : decode cX12_readSaid 87 = .ok (.putfield 477, 3) := by decide +kernel
theorem dX12_readSaid_90 : decode cX12_readSaid 90 = .ok (.aload_n 0, 1) := by decide +kernel
theorem dX12_readSaid_91 : decode cX12_readSaid 91 = .ok (.invokevirtual 82, 3) := by decide +kernel
theorem dX12_readSaid_94 : decode cX12_readSaid 94 = .ok (.iconst 1, 1) := by decide +kernel
theorem dX12_readSaid_95 : decode cX12_readSaid 95 = .ok (.istore_n 3, 1) := by decide +kernel
theorem dX12_readSaid_96 : decode cX12_readSaid 96 = .ok (.iload_n 1, 1) := by decide +kernel
theorem dX12_readSaid_97 : decode cX12_readSaid 97 = .ok (.ifCond .eq 11, 3) := by decide +kernel
theorem dX12_readSaid_100 : decode cX12_readSaid 100 = .ok (.aload_n 0, 1) := by decide +kernel
theorem dX12_readSaid_101 : decode cX12_readSaid 101 = .ok (.invokevirtual 480, 3) := by decide +kernel
theorem dX12_readSaid_104 : decode cX12_readSaid 104 = .ok (.istore_n 3, 1) := by decide +kernel
theorem dX12_readSaid_105 : decode cX12_readSaid 105 = .ok (.goto 61, 3) := by decide +kernel
theorem dX12_readSaid_108 : decode cX12_readSaid 108 = .ok (.iload_n 2, 1) := by decide +kernel
theorem dX12_readSaid_109 : decode cX12_readSaid 109 = .ok (.bipush 12, 2) := by decide +kernel
theorem dX12_readSaid_111 : decode cX12_readSaid 111 = .ok (.if_icmp .ne 11, 3) := by decide +kernel
theorem dX12_readSaid_114 : decode cX12_readSaid 114 = .ok (.aload_n 0, 1) := by decide +kernel
theorem dX12_readSaid_115 : decode cX12_readSaid 115 = .ok (.invokevirtual 483, 3) := by decide +kernel
theorem dX12_readSaid_118 : decode cX12_readSaid 118 = .ok (.istore_n 3, 1) := by decide +kernel
theorem dX12_readSaid_119 : decode cX12_readSaid 119 = .ok (.goto 47, 3) := by decide +kernel
theorem dX12_readSaid_122 : decode cX12_readSaid 122 = .ok (.iload_n 2, 1) := by decide +kernel
theorem dX12_readSaid_123 : decode cX12_readSaid 123 = .ok (.bipush 16, 2) := by decide +kernel
theorem dX12_readSaid_125 : decode cX12_readSaid 125 = .ok (.if_icmp .ge 21, 3) := by decide +kernel
theorem dX12_readSaid_128 : decode cX12_readSaid 128 = .ok (.aload_n 0, 1) := by decide +kernel
theorem dX12_readSaid_129 : decode cX12_readSaid 129 = .ok (.aload_n 0, 1) := by decide +kernel
theorem dX12_readSaid_130 : decode cX12_readSaid 130 = .ok (.bipush 50, 2) := by decide +kernel
theorem dX12_readSaid_132 : decode cX12_readSaid 132 = .ok (.iload_n 2, 1) := by decide +kernel
theorem dX12_readSaid_133 : decode cX12_readSaid 133 = .ok (.iadd, 1) := by decide +kernel
theorem dX12_readSaid_134 : decode cX12_readSaid 134 = .ok (.iconst 0, 1) := by decide +kernel
theorem dX12_readSaid_135 : decode cX12_readSaid 135 = .ok (.iconst 0, 1) := by decide +kernel
theorem dX12_readSaid_136 : decode cX12_readSaid 136 = .ok (.iconst 0, 1) := by decide +kernel
theorem dX12_readSaid_137 : decode cX12_readSaid 137 = .ok (.invokevirtual 468, 3) := by decide +kernel
theorem dX12_readSaid_140 : decode cX12_readSaid 140 = .ok (.putfield 465, 3) := by decide +kernel
theorem dX12_readSaid_143 : decode cX12_readSaid 143 = .ok (.goto 23, 3) := by decide +kernel
theorem dX12_readSaid_146 : decode cX12_readSaid 146 = .ok (.iload_n 2, 1) := by decide +kernel
theorem dX12_readSaid_147 : decode cX12_readSaid 147 = .ok (.bipush 18, 2) := by decide +kernel
theorem dX12_readSaid_149 : decode cX12_readSaid 149 = .ok (.if_icmp .ge 11, 3) := by decide +kernel
theorem dX12_readSaid_152 : decode cX12_readSaid 152 = .ok (.aload_n 0, 1) := by decide +kernel
theorem dX12_readSaid_153 : decode cX12_readSaid 153 = .ok (.iload_n 2, 1) := by decide +kernel
theorem dX12_readSaid_154 : decode cX12_readSaid 154 = .ok (.invokevirtual 486, 3) := by decide +kernel
theorem dX12_readSaid_157 : decode cX12_readSaid 157 = .ok (.goto 8, 3) := by decide +kernel
theorem dX12_readSaid_160 : decode cX12_readSaid 160 = .ok (.aload_n 0, 1) := by decide +kernel
theorem dX12_readSaid_161 : decode cX12_readSaid 161 = .ok (.iload_n 2, 1) := by decide +kernel
theorem dX12_readSaid_162 : decode cX12_readSaid 162 = .ok (.invokevirtual 489, 3) := by decide +kernel
theorem dX12_readSaid_165 : decode cX12_readSaid 165 = .ok (.istore_n 3, 1) := by decide +kernel
theorem dX12_readSaid_166 : decode cX12_readSaid 166 = .ok (.aload_n 0, 1) := by decide +kernel
theorem dX12_readSaid_167 : decode cX12_readSaid 167 = .ok (.dup, 1) := by decide +kernel
theorem dX12_readSaid_168 : decode cX12_readSaid 168 = .ok (.getfield 477, 3) := by decide +kernel
theorem dX12_readSaid_171 : decode cX12_readSaid 171 = .ok (.iconst 1, 1) := by decide +kernel
theorem dX12_readSaid_172 : decode cX12_readSaid 172 = .ok (.isub, 1) := by decide +kernel
theorem dX12_readSaid_173 : decode cX12_readSaid 173 = .ok (.putfield 477, 3) := by decide +kernel
theorem dX12_readSaid_176 : decode cX12_readSaid 176 = .ok (.iload_n 3, 1) := by decide +kernel
theorem dX12_readSaid_177 : decode cX12_readSaid 177 = .ok (.ireturn, 1) := by decide +kernel
theorem dX12_readNot_0 : decode cX12_readNot 0 = .ok (.aload_n 0, 1) := by decide +kernel
theorem dX12_readNot_1 : decode cX12_readNot 1 = .ok (.invokevirtual 471, 3) := by decide +kernel
theorem dX12_readNot_4 : decode cX12_readNot 4 = .ok (.ifCond .ne 5, 3) := by decide +kernel
theorem dX12_readNot_7 : decode cX12_readNot 7 = .ok (.iconst 0, 1) := by decide +kernel
theorem dX12_readNot_8 : decode cX12_readNot 8 = .ok (.ireturn, 1) := by decide +kernel
theorem dX12_readNot_9 : decode cX12_readNot 9 = .ok (.aload_n 0, 1) := by decide +kernel
theorem dX12_readNot_10 : decode cX12_readNot 10 = .ok (.aload_n 0, 1) := by decide +kernel
theorem dX12_readNot_11 : decode cX12_readNot 11 = .ok (.iconst 1, 1) := by decide +kernel
theorem dX12_readNot_12 : decode cX12_readNot 12 = .ok (.aload_n 0, 1) := by decide +kernel
theorem dX12_readNot_13 : decode cX12_readNot 13 = .ok (.getfield 465, 3) := by decide +kernel
theorem dX12_readNot_16 : decode cX12_readNot 16 = .ok (.iconst 0, 1) := by decide +kernel
theorem dX12_readNot_17 : decode cX12_readNot 17 = .ok (.iconst 0, 1) := by decide +kernel
theorem dX12_readNot_18 : decode cX12_readNot 18 = .ok (.invokevirtual 468, 3) := by decide +kernel
theorem dX12_readNot_21 : decode cX12_readNot 21 = .ok (.putfield 465, 3) := by decide +kernel
theorem dX12_readNot_24 : decode cX12_readNot 24 = .ok (.iconst 1, 1) := by decide +kernel
theorem dX12_readNot_25 : decode cX12_readNot 25 = .ok (.ireturn, 1) := by decide +kernel
theorem dX12_readBracket_0 : decode cX12_readBracket 0 = .ok (.aload_n 0, 1) := by decide +kernel
theorem dX12_readBracket_1 : decode cX12_readBracket 1 = .ok (.invokevirtual 492, 3) := by decide +kernel
theorem dX12_readBracket_4 : decode cX12_readBracket 4 = .ok (.ifCond .ne 5, 3) := by decide +kernel
theorem dX12_readBracket_7 : decode cX12_readBracket 7 = .ok (.iconst 0, 1) := by decide +kernel
theorem dX12_readBracket_8 : decode cX12_readBracket 8 = .ok (.ireturn, 1) := by decide +kernel
theorem dX12_readBracket_9 : decode cX12_readBracket 9 = .ok (.aload_n 0, 1) := by decide +kernel
theorem dX12_readBracket_10 : decode cX12_readBracket 10 = .ok (.bipush 41, 2) := by decide +kernel
theorem dX12_readBracket_12 : decode cX12_readBracket 12 = .ok (.invokevirtual 86, 3) := by decide +kernel
theorem dX12_readBracket_15 : decode cX12_readBracket 15 = .ok (.ifCond .ne 9, 3) := by decide +kernel
theorem dX12_readBracket_18 : decode cX12_readBracket 18 = .ok (.aload_n 0, 1) := by decide +kernel
theorem dX12_readBracket_19 : decode cX12_readBracket 19 = .ok (.iconst 1, 1) := by decide +kernel
theorem dX12_readBracket_20 : decode cX12_readBracket 20 = .ok (.invokevirtual 72, 3) := by decide +kernel
theorem dX12_readBracket_23 : decode cX12_readBracket 23 = .ok (.ireturn, 1) := by decide +kernel
theorem dX12_readBracket_24 : decode cX12_readBracket 24 = .ok (.aload_n 0, 1) := by decide +kernel
theorem dX12_readBracket_25 : decode cX12_readBracket 25 = .ok (.invokevirtual 82, 3) := by decide +kernel
theorem dX12_readBracket_28 : decode cX12_readBracket 28 = .ok (.iconst 1, 1) := by decide +kernel
theorem dX12_readBracket_29 : decode cX12_readBracket 29 = .ok (.ireturn, 1) := by decide +kernel
theorem dX12_readOf_0 : decode cX12_readOf 0 = .ok (.aload_n 0, 1) := by decide +kernel
theorem dX12_readOf_1 : decode cX12_readOf 1 = .ok (.iload_n 1, 1) := by decide +kernel
theorem dX12_readOf_2 : decode cX12_readOf 2 = .ok (.invokevirtual 495, 3) := by decide +kernel
theorem dX12_readOf_5 : decode cX12_readOf 5 = .ok (.ifCond .ne 5, 3) := by decide +kernel
theorem dX12_readOf_8 : decode cX12_readOf 8 = .ok (.iconst 0, 1) := by decide +kernel
theorem dX12_readOf_9 : decode cX12_readOf 9 = .ok (.ireturn, 1) := by decide +kernel
theorem dX12_readOf_10 : decode cX12_readOf 10 = .ok (.aload_n 0, 1) := by decide +kernel
theorem dX12_readOf_11 : decode cX12_readOf 11 = .ok (.aload_n 0, 1) := by decide +kernel
theorem dX12_readOf_12 : decode cX12_readOf 12 = .ok (.bipush 50, 2) := by decide +kernel
theorem dX12_readOf_14 : decode cX12_readOf 14 = .ok (.iload_n 1, 1) := by decide +kernel
theorem dX12_readOf_15 : decode cX12_readOf 15 = .ok (.iadd, 1) := by decide +kernel
theorem dX12_readOf_16 : decode cX12_readOf 16 = .ok (.aload_n 0, 1) := by decide +kernel
theorem dX12_readOf_17 : decode cX12_readOf 17 = .ok (.getfield 79, 3) := by decide +kernel
theorem dX12_readOf_20 : decode cX12_readOf 20 = .ok (.iconst 0, 1) := by decide +kernel
theorem dX12_readOf_21 : decode cX12_readOf 21 = .ok (.iconst 0, 1) := by decide +kernel
theorem dX12_readOf_22 : decode cX12_readOf 22 = .ok (.invokevirtual 468, 3) := by decide +kernel
theorem dX12_readOf_25 : decode cX12_readOf 25 = .ok (.putfield 465, 3) := by decide +kernel
theorem dX12_readOf_28 : decode cX12_readOf 28 = .ok (.iconst 1, 1) := by decide +kernel
theorem dX12_readOf_29 : decode cX12_readOf 29 = .ok (.ireturn, 1) := by decide +kernel
theorem dX12_readCompare_0 : decode cX12_readCompare 0 = .ok (.aload_n 0, 1) := by decide +kernel
theorem dX12_readCompare_1 : decode cX12_readCompare 1 = .ok (.bipush 60, 2) := by decide +kernel
theorem dX12_readCompare_3 : decode cX12_readCompare 3 = .ok (.invokevirtual 86, 3) := by decide +kernel
theorem dX12_readCompare_6 : decode cX12_readCompare 6 = .ok (.ifCond .ne 27, 3) := by decide +kernel
theorem dX12_readCompare_9 : decode cX12_readCompare 9 = .ok (.aload_n 0, 1) := by decide +kernel
theorem dX12_readCompare_10 : decode cX12_readCompare 10 = .ok (.bipush 61, 2) := by decide +kernel
theorem dX12_readCompare_12 : decode cX12_readCompare 12 = .ok (.invokevirtual 86, 3) := by decide +kernel
theorem dX12_readCompare_15 : decode cX12_readCompare 15 = .ok (.ifCond .ne 18, 3) := by decide +kernel
theorem dX12_readCompare_18 : decode cX12_readCompare 18 = .ok (.aload_n 0, 1) := by decide +kernel
theorem dX12_readCompare_19 : decode cX12_readCompare 19 = .ok (.bipush 62, 2) := by decide +kernel
theorem dX12_readCompare_21 : decode cX12_readCompare 21 = .ok (.invokevirtual 86, 3) := by decide +kernel
theorem dX12_readCompare_24 : decode cX12_readCompare 24 = .ok (.ifCond .ne 9, 3) := by decide +kernel
theorem dX12_readCompare_27 : decode cX12_readCompare 27 = .ok (.aload_n 0, 1) := by decide +kernel
theorem dX12_readCompare_28 : decode cX12_readCompare 28 = .ok (.iconst 1, 1) := by decide +kernel
theorem dX12_readCompare_29 : decode cX12_readCompare 29 = .ok (.invokevirtual 72, 3) := by decide +kernel
theorem dX12_readCompare_32 : decode cX12_readCompare 32 = .ok (.ireturn, 1) := by decide +kernel
theorem dX12_readCompare_33 : decode cX12_readCompare 33 = .ok (.aload_n 0, 1) := by decide +kernel
theorem dX12_readCompare_34 : decode cX12_readCompare 34 = .ok (.getfield 40, 3) := by decide +kernel
theorem dX12_readCompare_37 : decode cX12_readCompare 37 = .ok (.istore_n 2, 1) := by decide +kernel
theorem dX12_readCompare_38 : decode cX12_readCompare 38 = .ok (.aload_n 0, 1) := by decide +kernel
theorem dX12_readCompare_39 : decode cX12_readCompare 39 = .ok (.invokevirtual 82, 3) := by decide +kernel
theorem dX12_readCompare_42 : decode cX12_readCompare 42 = .ok (.aload_n 0, 1) := by decide +kernel
theorem dX12_readCompare_43 : decode cX12_readCompare 43 = .ok (.iconst 0, 1) := by decide +kernel
theorem dX12_readCompare_44 : decode cX12_readCompare 44 = .ok (.sipush 999, 3) := by decide +kernel
theorem dX12_readCompare_47 : decode cX12_readCompare 47 = .ok (.invokevirtual 190, 3) := by decide +kernel
theorem dX12_readCompare_50 : decode cX12_readCompare 50 = .ok (.ifCond .ne 5, 3) := by decide +kernel
theorem dX12_readCompare_53 : decode cX12_readCompare 53 = .ok (.iconst 0, 1) := by decide +kernel
theorem dX12_readCompare_54 : decode cX12_readCompare 54 = .ok (.ireturn, 1) := by decide +kernel
theorem dX12_readCompare_55 : decode cX12_readCompare 55 = .ok (.aload_n 0, 1) := by decide +kernel
theorem dX12_readCompare_56 : decode cX12_readCompare 56 = .ok (.aload_n 0, 1) := by decide +kernel
theorem dX12_readCompare_57 : decode cX12_readCompare 57 = .ok (.bipush 50, 2) := by decide +kernel
theorem dX12_readCompare_59 : decode cX12_readCompare 59 = .ok (.iload_n 1, 1) := by decide +kernel
theorem dX12_readCompare_60 : decode cX12_readCompare 60 = .ok (.iadd, 1) := by decide +kernel
theorem dX12_readCompare_61 : decode cX12_readCompare 61 = .ok (.iconst 0, 1) := by decide +kernel
theorem dX12_readCompare_62 : decode cX12_readCompare 62 = .ok (.aload_n 0, 1) := by decide +kernel
theorem dX12_readCompare_63 : decode cX12_readCompare 63 = .ok (.getfield 79, 3) := by decide +kernel
theorem dX12_readCompare_66 : decode cX12_readCompare 66 = .ok (.iload_n 2, 1) := by decide +kernel
theorem dX12_readCompare_67 : decode cX12_readCompare 67 = .ok (.invokevirtual 468, 3) := by decide +kernel
theorem dX12_readCompare_70 : decode cX12_readCompare 70 = .ok (.putfield 465, 3) := by decide +kernel
theorem dX12_readCompare_73 : decode cX12_readCompare 73 = .ok (.iconst 1, 1) := by decide +kernel
theorem dX12_readCompare_74 : decode cX12_readCompare 74 = .ok (.ireturn, 1) := by decide +kernel
theorem dX12_sentence_0 : decode cX12_sentence 0 = .ok (.aload_n 0, 1) := by decide +kernel
theorem dX12_sentence_1 : decode cX12_sentence 1 = .ok (.sipush 200, 3) := by decide +kernel
theorem dX12_sentence_4 : decode cX12_sentence 4 = .ok (.invokevirtual 236, 3) := by decide +kernel
theorem dX12_sentence_7 : decode cX12_sentence 7 = .ok (.aload_n 0, 1) := by decide +kernel
theorem dX12_sentence_8 : decode cX12_sentence 8 = .ok (.iconst 0, 1) := by decide +kernel
theorem dX12_sentence_9 : decode cX12_sentence 9 = .ok (.putfield 459, 3) := by decide +kernel
theorem dX12_sentence_12 : decode cX12_sentence 12 = .ok (.aload_n 0, 1) := by decide +kernel
theorem dX12_sentence_13 : decode cX12_sentence 13 = .ok (.iconst 0, 1) := by decide +kernel
theorem dX12_sentence_14 : decode cX12_sentence 14 = .ok (.putfield 474, 3) := by decide +kernel
theorem dX12_sentence_17 : decode cX12_sentence 17 = .ok (.aload_n 0, 1) := by decide +kernel
theorem dX12_sentence_18 : decode cX12_sentence 18 = .ok (.iconst 0, 1) := by decide +kernel
theorem dX12_sentence_19 : decode cX12_sentence 19 = .ok (.putfield 477, 3) := by decide +kernel
theorem dX12_sentence_22 : decode cX12_sentence 22 = .ok (.aload_n 0, 1) := by decide +kernel
theorem dX12_sentence_23 : decode cX12_sentence 23 = .ok (.invokevirtual 492, 3) := by decide +kernel
theorem dX12_sentence_26 : decode cX12_sentence 26 = .ok (.ifCond .ne 10, 3) := by decide +kernel
theorem dX12_sentence_29 : decode cX12_sentence 29 = .ok (.iconst (-1), 1) := by decide +kernel
theorem dX12_sentence_30 : decode cX12_sentence 30 = .ok (.aload_n 0, 1) := by decide +kernel
theorem dX12_sentence_31 : decode cX12_sentence 31 = .ok (.getfield 69, 3) := by decide +kernel
theorem dX12_sentence_34 : decode cX12_sentence 34 = .ok (.isub, 1) := by decide +kernel
theorem dX12_sentence_35 : decode cX12_sentence 35 = .ok (.ireturn, 1) := by decide +kernel
theorem dX12_sentence_36 : decode cX12_sentence 36 = .ok (.aload_n 0, 1) := by decide +kernel
theorem dX12_sentence_37 : decode cX12_sentence 37 = .ok (.getfield 30, 3) := by decide +kernel
theorem dX12_sentence_40 : decode cX12_sentence 40 = .ok (.ifCond .eq 16, 3) := by decide +kernel
theorem dX12_sentence_43 : decode cX12_sentence 43 = .ok (.aload_n 0, 1) := by decide +kernel
theorem dX12_sentence_44 : decode cX12_sentence 44 = .ok (.iconst 1, 1) := by decide +kernel
theorem dX12_sentence_45 : decode cX12_sentence 45 = .ok (.invokevirtual 72, 3) := by decide +kernel
theorem dX12_sentence_48 : decode cX12_sentence 48 = .ok (.pop, 1) := by decide +kernel
theorem dX12_sentence_49 : decode cX12_sentence 49 = .ok (.iconst (-1), 1) := by decide +kernel
theorem dX12_sentence_50 : decode cX12_sentence 50 = .ok (.aload_n 0, 1) := by decide +kernel
theorem dX12_sentence_51 : decode cX12_sentence 51 = .ok (.getfield 69, 3) := by decide +kernel
theorem dX12_sentence_54 : decode cX12_sentence 54 = .ok (.isub, 1) := by decide +kernel
theorem dX12_sentence_55 : decode cX12_sentence 55 = .ok (.ireturn, 1) := by decide +kernel
theorem dX12_sentence_56 : decode cX12_sentence 56 = .ok (.aload_n 0, 1) := by decide +kernel
theorem dX12_sentence_57 : decode cX12_sentence 57 = .ok (.getfield 98, 3) := by decide +kernel
theorem dX12_sentence_60 : decode cX12_sentence 60 = .ok (.sipush 1678, 3) := by decide +kernel
theorem dX12_sentence_63 : decode cX12_sentence 63 = .ok (.iconst 1, 1) := by decide +kernel
theorem dX12_sentence_64 : decode cX12_sentence 64 = .ok (.iastore, 1) := by decide +kernel
theorem dX12_sentence_65 : decode cX12_sentence 65 = .ok (.aload_n 0, 1) := by decide +kernel
theorem dX12_sentence_66 : decode cX12_sentence 66 = .ok (.getfield 98, 3) := by decide +kernel
theorem dX12_sentence_69 : decode cX12_sentence 69 = .ok (.sipush 1679, 3) := by decide +kernel
theorem dX12_sentence_72 : decode cX12_sentence 72 = .ok (.aload_n 0, 1) := by decide +kernel
theorem dX12_sentence_73 : decode cX12_sentence 73 = .ok (.getfield 465, 3) := by decide +kernel
theorem dX12_sentence_76 : decode cX12_sentence 76 = .ok (.iastore, 1) := by decide +kernel
theorem dX12_sentence_77 : decode cX12_sentence 77 = .ok (.iconst 0, 1) := by decide +kernel
theorem dX12_sentence_78 : decode cX12_sentence 78 = .ok (.istore_n 1, 1) := by decide +kernel
theorem dX12_sentence_79 : decode cX12_sentence 79 = .ok (.iload_n 1, 1) := by decide +kernel
theorem dX12_sentence_80 : decode cX12_sentence 80 = .ok (.sipush 240, 3) := by decide +kernel
theorem dX12_sentence_83 : decode cX12_sentence 83 = .ok (.if_icmp .ge 25, 3) := by decide +kernel
theorem dX12_sentence_86 : decode cX12_sentence 86 = .ok (.aload_n 0, 1) := by decide +kernel
theorem dX12_sentence_87 : decode cX12_sentence 87 = .ok (.getfield 98, 3) := by decide +kernel
theorem dX12_sentence_90 : decode cX12_sentence 90 = .ok (.sipush 1680, 3) := by decide +kernel
theorem dX12_sentence_93 : decode cX12_sentence 93 = .ok (.iload_n 1, 1) := by decide +kernel
theorem dX12_sentence_94 : decode cX12_sentence 94 = .ok (.iadd, 1) := by decide +kernel
theorem dX12_sentence_95 : decode cX12_sentence 95 = .ok (.aload_n 0, 1) := by decide +kernel
theorem dX12_sentence_96 : decode cX12_sentence 96 = .ok (.getfield 172, 3) := by decide +kernel
theorem dX12_sentence_99 : decode cX12_sentence 99 = .ok (.iload_n 1, 1) := by decide +kernel
theorem dX12_sentence_100 : decode cX12_sentence 100 = .ok (.iaload, 1) := by decide +kernel
theorem dX12_sentence_101 : decode cX12_sentence 101 = .ok (.iastore, 1) := by decide +kernel
theorem dX12_sentence_102 : decode cX12_sentence 102 = .ok (.iinc 1 1, 3) := by decide +kernel
theorem dX12_sentence_105 : decode cX12_sentence 105 = .ok (.goto (-26), 3) := by decide +kernel
theorem dX12_sentence_108 : decode cX12_sentence 108 = .ok (.aload_n 0, 1) := by decide +kernel
theorem dX12_sentence_109 : decode cX12_sentence 109 = .ok (.getfield 474, 3) := by decide +kernel
theorem dX12_sentence_112 : decode cX12_sentence 112 = .ok (.ireturn, 1) := by decide +kernel
theorem dX12_holds__0 : decode cX12_holds_ 0 = .ok (.sipush 1680, 3) := by decide +kernel
theorem dX12_holds__3 : decode cX12_holds_ 3 = .ok (.iconst 4, 1) := by decide +kernel
theorem dX12_holds__4 : decode cX12_holds_ 4 = .ok (.iload_n 1, 1) := by decide +kernel
theorem dX12_holds__5 : decode cX12_holds_ 5 = .ok (.imul, 1) := by decide +kernel
theorem dX12_holds__6 : decode cX12_holds_ 6 = .ok (.iadd, 1) := by decide +kernel
theorem dX12_holds__7 : decode cX12_holds_ 7 = .ok (.istore_n 3, 1) := by decide +kernel
theorem dX12_holds__8 : decode cX12_holds_ 8 = .ok (.aload_n 0, 1) := by decide +kernel
theorem dX12_holds__9 : decode cX12_holds_ 9 = .ok (.getfield 98, 3) := by decide +kernel
theorem dX12_holds__12 : decode cX12_holds_ 12 = .ok (.iload_n 3, 1) := by decide +kernel
theorem dX12_holds__13 : decode cX12_holds_ 13 = .ok (.iconst 1, 1) := by decide +kernel
theorem dX12_holds__14 : decode cX12_holds_ 14 = .ok (.iadd, 1) := by decide +kernel
theorem dX12_holds__15 : decode cX12_holds_ 15 = .ok (.iaload, 1) := by decide +kernel
theorem dX12_holds__16 : decode cX12_holds_ 16 = .ok (.istore 4, 2) := by decide +kernel
theorem dX12_holds__18 : decode cX12_holds_ 18 = .ok (.aload_n 0, 1) := by decide +kernel
theorem dX12_holds__19 : decode cX12_holds_ 19 = .ok (.getfield 98, 3) := by decide +kernel
theorem dX12_holds__22 : decode cX12_holds_ 22 = .ok (.iload_n 3, 1) := by decide +kernel
theorem dX12_holds__23 : decode cX12_holds_ 23 = .ok (.iconst 2, 1) := by decide +kernel
theorem dX12_holds__24 : decode cX12_holds_ 24 = .ok (.iadd, 1) := by decide +kernel
theorem dX12_holds__25 : decode cX12_holds_ 25 = .ok (.iaload, 1) := by decide +kernel
theorem dX12_holds__26 : decode cX12_holds_ 26 = .ok (.istore 5, 2) := by decide +kernel
theorem dX12_holds__28 : decode cX12_holds_ 28 = .ok (.aload_n 0, 1) := by decide +kernel
theorem dX12_holds__29 : decode cX12_holds_ 29 = .ok (.getfield 98, 3) := by decide +kernel
theorem dX12_holds__32 : decode cX12_holds_ 32 = .ok (.iload_n 3, 1) := by decide +kernel
theorem dX12_holds__33 : decode cX12_holds_ 33 = .ok (.iaload, 1) := by decide +kernel
theorem dX12_holds__34 : decode cX12_holds_ 34 = .ok (.lookupswitch 229 #[(1, 74), (2, 90), (3, 116), (63, 142), (64, 156), (65, 170), (66, 191), (67, 207)], 74) := by decide +kernel
theorem dX12_holds__108 : decode cX12_holds_ 108 = .ok (.aload_n 0, 1) := by decide +kernel
theorem dX12_holds__109 : decode cX12_holds_ 109 = .ok (.iload 4, 2) := by decide +kernel
theorem dX12_holds__111 : decode cX12_holds_ 111 = .ok (.iload_n 2, 1) := by decide +kernel
theorem dX12_holds__112 : decode cX12_holds_ 112 = .ok (.invokevirtual 498, 3) := by decide +kernel
theorem dX12_holds__115 : decode cX12_holds_ 115 = .ok (.ifCond .ne 7, 3) := by decide +kernel
theorem dX12_holds__118 : decode cX12_holds_ 118 = .ok (.iconst 1, 1) := by decide +kernel
theorem dX12_holds__119 : decode cX12_holds_ 119 = .ok (.goto 4, 3) := by decide +kernel
theorem dX12_holds__122 : decode cX12_holds_ 122 = .ok (.iconst 0, 1) := by decide +kernel
theorem dX12_holds__123 : decode cX12_holds_ 123 = .ok (.ireturn, 1) := by decide +kernel
theorem dX12_holds__124 : decode cX12_holds_ 124 = .ok (.aload_n 0, 1) := by decide +kernel
theorem dX12_holds__125 : decode cX12_holds_ 125 = .ok (.iload 4, 2) := by decide +kernel
theorem dX12_holds__127 : decode cX12_holds_ 127 = .ok (.iload_n 2, 1) := by decide +kernel
theorem dX12_holds__128 : decode cX12_holds_ 128 = .ok (.invokevirtual 498, 3) := by decide +kernel
theorem dX12_holds__131 : decode cX12_holds_ 131 = .ok (.ifCond .eq 17, 3) := by decide +kernel
theorem dX12_holds__134 : decode cX12_holds_ 134 = .ok (.aload_n 0, 1) := by decide +kernel
theorem dX12_holds__135 : decode cX12_holds_ 135 = .ok (.iload 5, 2) := by decide +kernel
theorem dX12_holds__137 : decode cX12_holds_ 137 = .ok (.iload_n 2, 1) := by decide +kernel
theorem dX12_holds__138 : decode cX12_holds_ 138 = .ok (.invokevirtual 498, 3) := by decide +kernel
theorem dX12_holds__141 : decode cX12_holds_ 141 = .ok (.ifCond .eq 7, 3) := by decide +kernel
theorem dX12_holds__144 : decode cX12_holds_ 144 = .ok (.iconst 1, 1) := by decide +kernel
theorem dX12_holds__145 : decode cX12_holds_ 145 = .ok (.goto 4, 3) := by decide +kernel
theorem dX12_holds__148 : decode cX12_holds_ 148 = .ok (.iconst 0, 1) := by decide +kernel
theorem dX12_holds__149 : decode cX12_holds_ 149 = .ok (.ireturn, 1) := by decide +kernel
theorem dX12_holds__150 : decode cX12_holds_ 150 = .ok (.aload_n 0, 1) := by decide +kernel
theorem dX12_holds__151 : decode cX12_holds_ 151 = .ok (.iload 4, 2) := by decide +kernel
theorem dX12_holds__153 : decode cX12_holds_ 153 = .ok (.iload_n 2, 1) := by decide +kernel
theorem dX12_holds__154 : decode cX12_holds_ 154 = .ok (.invokevirtual 498, 3) := by decide +kernel
theorem dX12_holds__157 : decode cX12_holds_ 157 = .ok (.ifCond .ne 13, 3) := by decide +kernel
theorem dX12_holds__160 : decode cX12_holds_ 160 = .ok (.aload_n 0, 1) := by decide +kernel
theorem dX12_holds__161 : decode cX12_holds_ 161 = .ok (.iload 5, 2) := by decide +kernel
theorem dX12_holds__163 : decode cX12_holds_ 163 = .ok (.iload_n 2, 1) := by decide +kernel
theorem dX12_holds__164 : decode cX12_holds_ 164 = .ok (.invokevirtual 498, 3) := by decide +kernel
theorem dX12_holds__167 : decode cX12_holds_ 167 = .ok (.ifCond .eq 7, 3) := by decide +kernel
theorem dX12_holds__170 : decode cX12_holds_ 170 = .ok (.iconst 1, 1) := by decide +kernel
theorem dX12_holds__171 : decode cX12_holds_ 171 = .ok (.goto 4, 3) := by decide +kernel
theorem dX12_holds__174 : decode cX12_holds_ 174 = .ok (.iconst 0, 1) := by decide +kernel
theorem dX12_holds__175 : decode cX12_holds_ 175 = .ok (.ireturn, 1) := by decide +kernel
theorem dX12_holds__176 : decode cX12_holds_ 176 = .ok (.aload_n 0, 1) := by decide +kernel
theorem dX12_holds__177 : decode cX12_holds_ 177 = .ok (.iload_n 2, 1) := by decide +kernel
theorem dX12_holds__178 : decode cX12_holds_ 178 = .ok (.invokevirtual 260, 3) := by decide +kernel
theorem dX12_holds__181 : decode cX12_holds_ 181 = .ok (.ifCond .ne 7, 3) := by decide +kernel
theorem dX12_holds__184 : decode cX12_holds_ 184 = .ok (.iconst 1, 1) := by decide +kernel
theorem dX12_holds__185 : decode cX12_holds_ 185 = .ok (.goto 4, 3) := by decide +kernel
theorem dX12_holds__188 : decode cX12_holds_ 188 = .ok (.iconst 0, 1) := by decide +kernel
theorem dX12_holds__189 : decode cX12_holds_ 189 = .ok (.ireturn, 1) := by decide +kernel
theorem dX12_holds__190 : decode cX12_holds_ 190 = .ok (.aload_n 0, 1) := by decide +kernel
theorem dX12_holds__191 : decode cX12_holds_ 191 = .ok (.iload_n 2, 1) := by decide +kernel
theorem dX12_holds__192 : decode cX12_holds_ 192 = .ok (.invokevirtual 257, 3) := by decide +kernel
theorem dX12_holds__195 : decode cX12_holds_ 195 = .ok (.ifCond .ne 7, 3) := by decide +kernel
theorem dX12_holds__198 : decode cX12_holds_ 198 = .ok (.iconst 1, 1) := by decide +kernel
theorem dX12_holds__199 : decode cX12_holds_ 199 = .ok (.goto 4, 3) := by decide +kernel
theorem dX12_holds__202 : decode cX12_holds_ 202 = .ok (.iconst 0, 1) := by decide +kernel
theorem dX12_holds__203 : decode cX12_holds_ 203 = .ok (.ireturn, 1) := by decide +kernel
theorem dX12_holds__204 : decode cX12_holds_ 204 = .ok (.aload_n 0, 1) := by decide +kernel
theorem dX12_holds__205 : decode cX12_holds_ 205 = .ok (.iload_n 2, 1) := by decide +kernel
theorem dX12_holds__206 : decode cX12_holds_ 206 = .ok (.iconst 1, 1) := by decide +kernel
theorem dX12_holds__207 : decode cX12_holds_ 207 = .ok (.invokevirtual 269, 3) := by decide +kernel
theorem dX12_holds__210 : decode cX12_holds_ 210 = .ok (.aload_n 0, 1) := by decide +kernel
theorem dX12_holds__211 : decode cX12_holds_ 211 = .ok (.iload_n 2, 1) := by decide +kernel
theorem dX12_holds__212 : decode cX12_holds_ 212 = .ok (.iconst 0, 1) := by decide +kernel
theorem dX12_holds__213 : decode cX12_holds_ 213 = .ok (.invokevirtual 269, 3) := by decide +kernel
theorem dX12_holds__216 : decode cX12_holds_ 216 = .ok (.if_icmp .eq 7, 3) := by decide +kernel
theorem dX12_holds__219 : decode cX12_holds_ 219 = .ok (.iconst 1, 1) := by decide +kernel
theorem dX12_holds__220 : decode cX12_holds_ 220 = .ok (.goto 4, 3) := by decide +kernel
theorem dX12_holds__223 : decode cX12_holds_ 223 = .ok (.iconst 0, 1) := by decide +kernel
theorem dX12_holds__224 : decode cX12_holds_ 224 = .ok (.ireturn, 1) := by decide +kernel
theorem dX12_holds__225 : decode cX12_holds_ 225 = .ok (.aload_n 0, 1) := by decide +kernel
theorem dX12_holds__226 : decode cX12_holds_ 226 = .ok (.iload_n 2, 1) := by decide +kernel
theorem dX12_holds__227 : decode cX12_holds_ 227 = .ok (.invokevirtual 248, 3) := by decide +kernel
theorem dX12_holds__230 : decode cX12_holds_ 230 = .ok (.iload 4, 2) := by decide +kernel
theorem dX12_holds__232 : decode cX12_holds_ 232 = .ok (.if_icmp .ne 7, 3) := by decide +kernel
theorem dX12_holds__235 : decode cX12_holds_ 235 = .ok (.iconst 1, 1) := by decide +kernel
theorem dX12_holds__236 : decode cX12_holds_ 236 = .ok (.goto 4, 3) := by decide +kernel
theorem dX12_holds__239 : decode cX12_holds_ 239 = .ok (.iconst 0, 1) := by decide +kernel
theorem dX12_holds__240 : decode cX12_holds_ 240 = .ok (.ireturn, 1) := by decide +kernel
theorem dX12_holds__241 : decode cX12_holds_ 241 = .ok (.aload_n 0, 1) := by decide +kernel
theorem dX12_holds__242 : decode cX12_holds_ 242 = .ok (.getfield 98, 3) := by decide +kernel
theorem dX12_holds__245 : decode cX12_holds_ 245 = .ok (.aload_n 0, 1) := by decide +kernel
theorem dX12_holds__246 : decode cX12_holds_ 246 = .ok (.iload_n 2, 1) := by decide +kernel
theorem dX12_holds__247 : decode cX12_holds_ 247 = .ok (.invokevirtual 251, 3) := by decide +kernel
theorem dX12_holds__250 : decode cX12_holds_ 250 = .ok (.iload 4, 2) := by decide +kernel
theorem dX12_holds__252 : decode cX12_holds_ 252 = .ok (.iadd, 1) := by decide +kernel
theorem dX12_holds__253 : decode cX12_holds_ 253 = .ok (.iaload, 1) := by decide +kernel
theorem dX12_holds__254 : decode cX12_holds_ 254 = .ok (.ifCond .le 7, 3) := by decide +kernel
theorem dX12_holds__257 : decode cX12_holds_ 257 = .ok (.iconst 1, 1) := by decide +kernel
theorem dX12_holds__258 : decode cX12_holds_ 258 = .ok (.goto 4, 3) := by decide +kernel
theorem dX12_holds__261 : decode cX12_holds_ 261 = .ok (.iconst 0, 1) := by decide +kernel
theorem dX12_holds__262 : decode cX12_holds_ 262 = .ok (.ireturn, 1) := by decide +kernel
theorem dX12_holds__263 : decode cX12_holds_ 263 = .ok (.aload_n 0, 1) := by decide +kernel
theorem dX12_holds__264 : decode cX12_holds_ 264 = .ok (.getfield 98, 3) := by decide +kernel
theorem dX12_holds__267 : decode cX12_holds_ 267 = .ok (.iload_n 3, 1) := by decide +kernel
theorem dX12_holds__268 : decode cX12_holds_ 268 = .ok (.iaload, 1) := by decide +kernel
theorem dX12_holds__269 : decode cX12_holds_ 269 = .ok (.bipush 50, 2) := by decide +kernel
theorem dX12_holds__271 : decode cX12_holds_ 271 = .ok (.isub, 1) := by decide +kernel
theorem dX12_holds__272 : decode cX12_holds_ 272 = .ok (.istore 6, 2) := by decide +kernel
theorem dX12_holds__274 : decode cX12_holds_ 274 = .ok (.iload 6, 2) := by decide +kernel
theorem dX12_holds__276 : decode cX12_holds_ 276 = .ok (.bipush 18, 2) := by decide +kernel
theorem dX12_holds__278 : decode cX12_holds_ 278 = .ok (.if_icmp .ne 11, 3) := by decide +kernel
theorem dX12_holds__281 : decode cX12_holds_ 281 = .ok (.aload_n 0, 1) := by decide +kernel
theorem dX12_holds__282 : decode cX12_holds_ 282 = .ok (.iload_n 2, 1) := by decide +kernel
theorem dX12_holds__283 : decode cX12_holds_ 283 = .ok (.invokevirtual 257, 3) := by decide +kernel
theorem dX12_holds__286 : decode cX12_holds_ 286 = .ok (.goto 39, 3) := by decide +kernel
theorem dX12_holds__289 : decode cX12_holds_ 289 = .ok (.iload 6, 2) := by decide +kernel
theorem dX12_holds__291 : decode cX12_holds_ 291 = .ok (.bipush 19, 2) := by decide +kernel
theorem dX12_holds__293 : decode cX12_holds_ 293 = .ok (.if_icmp .ne 11, 3) := by decide +kernel
theorem dX12_holds__296 : decode cX12_holds_ 296 = .ok (.aload_n 0, 1) := by decide +kernel
theorem dX12_holds__297 : decode cX12_holds_ 297 = .ok (.iload_n 2, 1) := by decide +kernel
theorem dX12_holds__298 : decode cX12_holds_ 298 = .ok (.invokevirtual 500, 3) := by decide +kernel
theorem dX12_holds__301 : decode cX12_holds_ 301 = .ok (.goto 24, 3) := by decide +kernel
theorem dX12_holds__304 : decode cX12_holds_ 304 = .ok (.iload 6, 2) := by decide +kernel
theorem dX12_holds__306 : decode cX12_holds_ 306 = .ok (.bipush 20, 2) := by decide +kernel
theorem dX12_holds__308 : decode cX12_holds_ 308 = .ok (.if_icmp .ne 16, 3) := by decide +kernel
theorem dX12_holds__311 : decode cX12_holds_ 311 = .ok (.aload_n 0, 1) := by decide +kernel
theorem dX12_holds__312 : decode cX12_holds_ 312 = .ok (.getfield 98, 3) := by decide +kernel
theorem dX12_holds__315 : decode cX12_holds_ 315 = .ok (.sipush 858, 3) := by decide +kernel
theorem dX12_holds__318 : decode cX12_holds_ 318 = .ok (.iload_n 2, 1) := by decide +kernel
theorem dX12_holds__319 : decode cX12_holds_ 319 = .ok (.iadd, 1) := by decide +kernel
theorem dX12_holds__320 : decode cX12_holds_ 320 = .ok (.iaload, 1) := by decide +kernel
theorem dX12_holds__321 : decode cX12_holds_ 321 = .ok (.goto 4, 3) := by decide +kernel
theorem dX12_holds__324 : decode cX12_holds_ 324 = .ok (.iload_n 2, 1) := by decide +kernel
theorem dX12_holds__325 : decode cX12_holds_ 325 = .ok (.istore 7, 2) := by decide +kernel
theorem dX12_holds__327 : decode cX12_holds_ 327 = .ok (.aload_n 0, 1) := by decide +kernel
theorem dX12_holds__328 : decode cX12_holds_ 328 = .ok (.getfield 98, 3) := by decide +kernel
theorem dX12_holds__331 : decode cX12_holds_ 331 = .ok (.iload_n 3, 1) := by decide +kernel
theorem dX12_holds__332 : decode cX12_holds_ 332 = .ok (.iconst 3, 1) := by decide +kernel
theorem dX12_holds__333 : decode cX12_holds_ 333 = .ok (.iadd, 1) := by decide +kernel
theorem dX12_holds__334 : decode cX12_holds_ 334 = .ok (.iaload, 1) := by decide +kernel
theorem dX12_holds__335 : decode cX12_holds_ 335 = .ok (.bipush 60, 2) := by decide +kernel
theorem dX12_holds__337 : decode cX12_holds_ 337 = .ok (.if_icmp .ne 18, 3) := by decide +kernel
theorem dX12_holds__340 : decode cX12_holds_ 340 = .ok (.iload 7, 2) := by decide +kernel
theorem dX12_holds__342 : decode cX12_holds_ 342 = .ok (.iload 5, 2) := by decide +kernel
theorem dX12_holds__344 : decode cX12_holds_ 344 = .ok (.if_icmp .ge 7, 3) := by decide +kernel
theorem dX12_holds__347 : decode cX12_holds_ 347 = .ok (.iconst 1, 1) := by decide +kernel
theorem dX12_holds__348 : decode cX12_holds_ 348 = .ok (.goto 47, 3) := by decide +kernel
theorem dX12_holds__351 : decode cX12_holds_ 351 = .ok (.iconst 0, 1) := by decide +kernel
theorem dX12_holds__352 : decode cX12_holds_ 352 = .ok (.goto 43, 3) := by decide +kernel
theorem dX12_holds__355 : decode cX12_holds_ 355 = .ok (.aload_n 0, 1) := by decide +kernel
theorem dX12_holds__356 : decode cX12_holds_ 356 = .ok (.getfield 98, 3) := by decide +kernel
theorem dX12_holds__359 : decode cX12_holds_ 359 = .ok (.iload_n 3, 1) := by decide +kernel
theorem dX12_holds__360 : decode cX12_holds_ 360 = .ok (.iconst 3, 1) := by decide +kernel
theorem dX12_holds__361 : decode cX12_holds_ 361 = .ok (.iadd, 1) := by decide +kernel
theorem dX12_holds__362 : decode cX12_holds_ 362 = .ok (.iaload, 1) := by decide +kernel
theorem dX12_holds__363 : decode cX12_holds_ 363 = .ok (.bipush 61, 2) := by decide +kernel
theorem dX12_holds__365 : decode cX12_holds_ 365 = .ok (.if_icmp .ne 18, 3) := by decide +kernel
theorem dX12_holds__368 : decode cX12_holds_ 368 = .ok (.iload 7, 2) := by decide +kernel
theorem dX12_holds__370 : decode cX12_holds_ 370 = .ok (.iload 5, 2) := by decide +kernel
theorem dX12_holds__372 : decode cX12_holds_ 372 = .ok (.if_icmp .ne 7, 3) := by decide +kernel
theorem dX12_holds__375 : decode cX12_holds_ 375 = .ok (.iconst 1, 1) := by decide +kernel
theorem dX12_holds__376 : decode cX12_holds_ 376 = .ok (.goto 19, 3) := by decide +kernel
theorem dX12_holds__379 : decode cX12_holds_ 379 = .ok (.iconst 0, 1) := by decide +kernel
theorem dX12_holds__380 : decode cX12_holds_ 380 = .ok (.goto 15, 3) := by decide +kernel
theorem dX12_holds__383 : decode cX12_holds_ 383 = .ok (.iload 7, 2) := by decide +kernel
theorem dX12_holds__385 : decode cX12_holds_ 385 = .ok (.iload 5, 2) := by decide +kernel
theorem dX12_holds__387 : decode cX12_holds_ 387 = .ok (.if_icmp .le 7, 3) := by decide +kernel
theorem dX12_holds__390 : decode cX12_holds_ 390 = .ok (.iconst 1, 1) := by decide +kernel
theorem dX12_holds__391 : decode cX12_holds_ 391 = .ok (.goto 4, 3) := by decide +kernel
theorem dX12_holds__394 : decode cX12_holds_ 394 = .ok (.iconst 0, 1) := by decide +kernel
theorem dX12_holds__395 : decode cX12_holds_ 395 = .ok (.ireturn, 1) := by decide +kernel
theorem dX12_said_0 : decode cX12_said 0 = .ok (.aload_n 0, 1) := by decide +kernel
theorem dX12_said_1 : decode cX12_said 1 = .ok (.iconst 0, 1) := by decide +kernel
theorem dX12_said_2 : decode cX12_said 2 = .ok (.putfield 1, 3) := by decide +kernel
theorem dX12_said_5 : decode cX12_said 5 = .ok (.aload_n 0, 1) := by decide +kernel
theorem dX12_said_6 : decode cX12_said 6 = .ok (.getfield 98, 3) := by decide +kernel
theorem dX12_said_9 : decode cX12_said 9 = .ok (.sipush 1678, 3) := by decide +kernel
theorem dX12_said_12 : decode cX12_said 12 = .ok (.iaload, 1) := by decide +kernel
theorem dX12_said_13 : decode cX12_said 13 = .ok (.ifCond .ne 5, 3) := by decide +kernel
theorem dX12_said_16 : decode cX12_said 16 = .ok (.iconst (-1), 1) := by decide +kernel
theorem dX12_said_17 : decode cX12_said 17 = .ok (.ireturn, 1) := by decide +kernel
theorem dX12_said_18 : decode cX12_said 18 = .ok (.iconst 0, 1) := by decide +kernel
theorem dX12_said_19 : decode cX12_said 19 = .ok (.istore_n 2, 1) := by decide +kernel
theorem dX12_said_20 : decode cX12_said 20 = .ok (.iconst 0, 1) := by decide +kernel
theorem dX12_said_21 : decode cX12_said 21 = .ok (.istore_n 3, 1) := by decide +kernel
theorem dX12_said_22 : decode cX12_said 22 = .ok (.iload_n 3, 1) := by decide +kernel
theorem dX12_said_23 : decode cX12_said 23 = .ok (.aload_n 0, 1) := by decide +kernel
theorem dX12_said_24 : decode cX12_said 24 = .ok (.getfield 98, 3) := by decide +kernel
theorem dX12_said_27 : decode cX12_said 27 = .ok (.iconst 1, 1) := by decide +kernel
theorem dX12_said_28 : decode cX12_said 28 = .ok (.iaload, 1) := by decide +kernel
theorem dX12_said_29 : decode cX12_said 29 = .ok (.if_icmp .ge 38, 3) := by decide +kernel
theorem dX12_said_32 : decode cX12_said 32 = .ok (.aload_n 0, 1) := by decide +kernel
theorem dX12_said_33 : decode cX12_said 33 = .ok (.aload_n 0, 1) := by decide +kernel
theorem dX12_said_34 : decode cX12_said 34 = .ok (.getfield 98, 3) := by decide +kernel
theorem dX12_said_37 : decode cX12_said 37 = .ok (.sipush 1679, 3) := by decide +kernel
theorem dX12_said_40 : decode cX12_said 40 = .ok (.iaload, 1) := by decide +kernel
theorem dX12_said_41 : decode cX12_said 41 = .ok (.iload_n 3, 1) := by decide +kernel
theorem dX12_said_42 : decode cX12_said 42 = .ok (.invokevirtual 498, 3) := by decide +kernel
theorem dX12_said_45 : decode cX12_said 45 = .ok (.ifCond .ne 6, 3) := by decide +kernel
theorem dX12_said_48 : decode cX12_said 48 = .ok (.goto 13, 3) := by decide +kernel
theorem dX12_said_51 : decode cX12_said 51 = .ok (.iload_n 2, 1) := by decide +kernel
theorem dX12_said_52 : decode cX12_said 52 = .ok (.iload_n 1, 1) := by decide +kernel
theorem dX12_said_53 : decode cX12_said 53 = .ok (.if_icmp .ne 5, 3) := by decide +kernel
theorem dX12_said_56 : decode cX12_said 56 = .ok (.iload_n 3, 1) := by decide +kernel
theorem dX12_said_57 : decode cX12_said 57 = .ok (.ireturn, 1) := by decide +kernel
theorem dX12_said_58 : decode cX12_said 58 = .ok (.iinc 2 1, 3) := by decide +kernel
theorem dX12_said_61 : decode cX12_said 61 = .ok (.iinc 3 1, 3) := by decide +kernel
theorem dX12_said_64 : decode cX12_said 64 = .ok (.goto (-42), 3) := by decide +kernel
theorem dX12_said_67 : decode cX12_said 67 = .ok (.iload_n 1, 1) := by decide +kernel
theorem dX12_said_68 : decode cX12_said 68 = .ok (.iconst (-1), 1) := by decide +kernel
theorem dX12_said_69 : decode cX12_said 69 = .ok (.if_icmp .ne 7, 3) := by decide +kernel
theorem dX12_said_72 : decode cX12_said 72 = .ok (.iload_n 2, 1) := by decide +kernel
theorem dX12_said_73 : decode cX12_said 73 = .ok (.goto 4, 3) := by decide +kernel
theorem dX12_said_76 : decode cX12_said 76 = .ok (.iconst (-1), 1) := by decide +kernel
theorem dX12_said_77 : decode cX12_said 77 = .ok (.ireturn, 1) := by decide +kernel
theorem dX12_image_0 : decode cX12_image 0 = .ok (.aload_n 0, 1) := by decide +kernel
theorem dX12_image_1 : decode cX12_image 1 = .ok (.iconst 0, 1) := by decide +kernel
theorem dX12_image_2 : decode cX12_image 2 = .ok (.putfield 1, 3) := by decide +kernel
theorem dX12_image_5 : decode cX12_image 5 = .ok (.iload_n 1, 1) := by decide +kernel
theorem dX12_image_6 : decode cX12_image 6 = .ok (.iconst 0, 1) := by decide +kernel
theorem dX12_image_7 : decode cX12_image 7 = .ok (.iconst 1, 1) := by decide +kernel
theorem dX12_image_8 : decode cX12_image 8 = .ok (.invokestatic 75, 3) := by decide +kernel
theorem dX12_image_11 : decode cX12_image 11 = .ok (.ifCond .ne 5, 3) := by decide +kernel
theorem dX12_image_14 : decode cX12_image 14 = .ok (.iconst 0, 1) := by decide +kernel
theorem dX12_image_15 : decode cX12_image 15 = .ok (.ireturn, 1) := by decide +kernel
theorem dX12_image_16 : decode cX12_image 16 = .ok (.iconst 0, 1) := by decide +kernel
theorem dX12_image_17 : decode cX12_image 17 = .ok (.istore_n 2, 1) := by decide +kernel
theorem dX12_image_18 : decode cX12_image 18 = .ok (.iload_n 2, 1) := by decide +kernel
theorem dX12_image_19 : decode cX12_image 19 = .ok (.sipush 1920, 3) := by decide +kernel
theorem dX12_image_22 : decode cX12_image 22 = .ok (.if_icmp .ge 27, 3) := by decide +kernel
theorem dX12_image_25 : decode cX12_image 25 = .ok (.aload_n 0, 1) := by decide +kernel
theorem dX12_image_26 : decode cX12_image 26 = .ok (.getfield 104, 3) := by decide +kernel
theorem dX12_image_29 : decode cX12_image 29 = .ok (.sipush 1920, 3) := by decide +kernel
theorem dX12_image_32 : decode cX12_image 32 = .ok (.iload_n 1, 1) := by decide +kernel
theorem dX12_image_33 : decode cX12_image 33 = .ok (.imul, 1) := by decide +kernel
theorem dX12_image_34 : decode cX12_image 34 = .ok (.iload_n 2, 1) := by decide +kernel
theorem dX12_image_35 : decode cX12_image 35 = .ok (.iadd, 1) := by decide +kernel
theorem dX12_image_36 : decode cX12_image 36 = .ok (.aload_n 0, 1) := by decide +kernel
theorem dX12_image_37 : decode cX12_image 37 = .ok (.getfield 98, 3) := by decide +kernel
theorem dX12_image_40 : decode cX12_image 40 = .ok (.iload_n 2, 1) := by decide +kernel
theorem dX12_image_41 : decode cX12_image 41 = .ok (.iaload, 1) := by decide +kernel
theorem dX12_image_42 : decode cX12_image 42 = .ok (.iastore, 1) := by decide +kernel
theorem dX12_image_43 : decode cX12_image 43 = .ok (.iinc 2 1, 3) := by decide +kernel
theorem dX12_image_46 : decode cX12_image 46 = .ok (.goto (-28), 3) := by decide +kernel
theorem dX12_image_49 : decode cX12_image 49 = .ok (.iconst 0, 1) := by decide +kernel
theorem dX12_image_50 : decode cX12_image 50 = .ok (.istore_n 2, 1) := by decide +kernel
theorem dX12_image_51 : decode cX12_image 51 = .ok (.iload_n 2, 1) := by decide +kernel
theorem dX12_image_52 : decode cX12_image 52 = .ok (.iconst 5, 1) := by decide +kernel
theorem dX12_image_53 : decode cX12_image 53 = .ok (.if_icmp .ge 25, 3) := by decide +kernel
theorem dX12_image_56 : decode cX12_image 56 = .ok (.aload_n 0, 1) := by decide +kernel
theorem dX12_image_57 : decode cX12_image 57 = .ok (.getfield 120, 3) := by decide +kernel
theorem dX12_image_60 : decode cX12_image 60 = .ok (.iconst 5, 1) := by decide +kernel
theorem dX12_image_61 : decode cX12_image 61 = .ok (.iload_n 1, 1) := by decide +kernel
theorem dX12_image_62 : decode cX12_image 62 = .ok (.imul, 1) := by decide +kernel
theorem dX12_image_63 : decode cX12_image 63 = .ok (.iload_n 2, 1) := by decide +kernel
theorem dX12_image_64 : decode cX12_image 64 = .ok (.iadd, 1) := by decide +kernel
theorem dX12_image_65 : decode cX12_image 65 = .ok (.aload_n 0, 1) := by decide +kernel
theorem dX12_image_66 : decode cX12_image 66 = .ok (.getfield 113, 3) := by decide +kernel
theorem dX12_image_69 : decode cX12_image 69 = .ok (.iload_n 2, 1) := by decide +kernel
theorem dX12_image_70 : decode cX12_image 70 = .ok (.laload, 1) := by decide +kernel
theorem dX12_image_71 : decode cX12_image 71 = .ok (.lastore, 1) := by decide +kernel
theorem dX12_image_72 : decode cX12_image 72 = .ok (.iinc 2 1, 3) := by decide +kernel
theorem dX12_image_75 : decode cX12_image 75 = .ok (.goto (-24), 3) := by decide +kernel
theorem dX12_image_78 : decode cX12_image 78 = .ok (.aload_n 0, 1) := by decide +kernel
theorem dX12_image_79 : decode cX12_image 79 = .ok (.getfield 123, 3) := by decide +kernel
theorem dX12_image_82 : decode cX12_image 82 = .ok (.iload_n 1, 1) := by decide +kernel
theorem dX12_image_83 : decode cX12_image 83 = .ok (.iconst 1, 1) := by decide +kernel
theorem dX12_image_84 : decode cX12_image 84 = .ok (.bastore, 1) := by decide +kernel
theorem dX12_image_85 : decode cX12_image 85 = .ok (.iconst 1, 1) := by decide +kernel
theorem dX12_image_86 : decode cX12_image 86 = .ok (.ireturn, 1) := by decide +kernel
theorem dX12_restore_0 : decode cX12_restore 0 = .ok (.aload_n 0, 1) := by decide +kernel
theorem dX12_restore_1 : decode cX12_restore 1 = .ok (.iconst 0, 1) := by decide +kernel
theorem dX12_restore_2 : decode cX12_restore 2 = .ok (.putfield 1, 3) := by decide +kernel
theorem dX12_restore_5 : decode cX12_restore 5 = .ok (.iload_n 1, 1) := by decide +kernel
theorem dX12_restore_6 : decode cX12_restore 6 = .ok (.iconst 0, 1) := by decide +kernel
theorem dX12_restore_7 : decode cX12_restore 7 = .ok (.iconst 1, 1) := by decide +kernel
theorem dX12_restore_8 : decode cX12_restore 8 = .ok (.invokestatic 75, 3) := by decide +kernel
theorem dX12_restore_11 : decode cX12_restore 11 = .ok (.ifCond .eq 12, 3) := by decide +kernel
theorem dX12_restore_14 : decode cX12_restore 14 = .ok (.aload_n 0, 1) := by decide +kernel
theorem dX12_restore_15 : decode cX12_restore 15 = .ok (.getfield 123, 3) := by decide +kernel
theorem dX12_restore_18 : decode cX12_restore 18 = .ok (.iload_n 1, 1) := by decide +kernel
theorem dX12_restore_19 : decode cX12_restore 19 = .ok (.baload, 1) := by decide +kernel
theorem dX12_restore_20 : decode cX12_restore 20 = .ok (.ifCond .ne 5, 3) := by decide +kernel
theorem dX12_restore_23 : decode cX12_restore 23 = .ok (.iconst 0, 1) := by decide +kernel
theorem dX12_restore_24 : decode cX12_restore 24 = .ok (.ireturn, 1) := by decide +kernel
theorem dX12_restore_25 : decode cX12_restore 25 = .ok (.iconst 0, 1) := by decide +kernel
theorem dX12_restore_26 : decode cX12_restore 26 = .ok (.istore_n 2, 1) := by decide +kernel
theorem dX12_restore_27 : decode cX12_restore 27 = .ok (.iload_n 2, 1) := by decide +kernel
theorem dX12_restore_28 : decode cX12_restore 28 = .ok (.sipush 1920, 3) := by decide +kernel
theorem dX12_restore_31 : decode cX12_restore 31 = .ok (.if_icmp .ge 27, 3) := by decide +kernel
theorem dX12_restore_34 : decode cX12_restore 34 = .ok (.aload_n 0, 1) := by decide +kernel
theorem dX12_restore_35 : decode cX12_restore 35 = .ok (.getfield 98, 3) := by decide +kernel
theorem dX12_restore_38 : decode cX12_restore 38 = .ok (.iload_n 2, 1) := by decide +kernel
theorem dX12_restore_39 : decode cX12_restore 39 = .ok (.aload_n 0, 1) := by decide +kernel
theorem dX12_restore_40 : decode cX12_restore 40 = .ok (.getfield 104, 3) := by decide +kernel
theorem dX12_restore_43 : decode cX12_restore 43 = .ok (.sipush 1920, 3) := by decide +kernel
theorem dX12_restore_46 : decode cX12_restore 46 = .ok (.iload_n 1, 1) := by decide +kernel
theorem dX12_restore_47 : decode cX12_restore 47 = .ok (.imul, 1) := by decide +kernel
theorem dX12_restore_48 : decode cX12_restore 48 = .ok (.iload_n 2, 1) := by decide +kernel
theorem dX12_restore_49 : decode cX12_restore 49 = .ok (.iadd, 1) := by decide +kernel
theorem dX12_restore_50 : decode cX12_restore 50 = .ok (.iaload, 1) := by decide +kernel
theorem dX12_restore_51 : decode cX12_restore 51 = .ok (.iastore, 1) := by decide +kernel
theorem dX12_restore_52 : decode cX12_restore 52 = .ok (.iinc 2 1, 3) := by decide +kernel
theorem dX12_restore_55 : decode cX12_restore 55 = .ok (.goto (-28), 3) := by decide +kernel
theorem dX12_restore_58 : decode cX12_restore 58 = .ok (.iconst 0, 1) := by decide +kernel
theorem dX12_restore_59 : decode cX12_restore 59 = .ok (.istore_n 2, 1) := by decide +kernel
theorem dX12_restore_60 : decode cX12_restore 60 = .ok (.iload_n 2, 1) := by decide +kernel
theorem dX12_restore_61 : decode cX12_restore 61 = .ok (.iconst 5, 1) := by decide +kernel
theorem dX12_restore_62 : decode cX12_restore 62 = .ok (.if_icmp .ge 25, 3) := by decide +kernel
theorem dX12_restore_65 : decode cX12_restore 65 = .ok (.aload_n 0, 1) := by decide +kernel
theorem dX12_restore_66 : decode cX12_restore 66 = .ok (.getfield 113, 3) := by decide +kernel
theorem dX12_restore_69 : decode cX12_restore 69 = .ok (.iload_n 2, 1) := by decide +kernel
theorem dX12_restore_70 : decode cX12_restore 70 = .ok (.aload_n 0, 1) := by decide +kernel
theorem dX12_restore_71 : decode cX12_restore 71 = .ok (.getfield 120, 3) := by decide +kernel
theorem dX12_restore_74 : decode cX12_restore 74 = .ok (.iconst 5, 1) := by decide +kernel
theorem dX12_restore_75 : decode cX12_restore 75 = .ok (.iload_n 1, 1) := by decide +kernel
theorem dX12_restore_76 : decode cX12_restore 76 = .ok (.imul, 1) := by decide +kernel
theorem dX12_restore_77 : decode cX12_restore 77 = .ok (.iload_n 2, 1) := by decide +kernel
theorem dX12_restore_78 : decode cX12_restore 78 = .ok (.iadd, 1) := by decide +kernel
theorem dX12_restore_79 : decode cX12_restore 79 = .ok (.laload, 1) := by decide +kernel
theorem dX12_restore_80 : decode cX12_restore 80 = .ok (.lastore, 1) := by decide +kernel
theorem dX12_restore_81 : decode cX12_restore 81 = .ok (.iinc 2 1, 3) := by decide +kernel
theorem dX12_restore_84 : decode cX12_restore 84 = .ok (.goto (-24), 3) := by decide +kernel
theorem dX12_restore_87 : decode cX12_restore 87 = .ok (.aload_n 0, 1) := by decide +kernel
theorem dX12_restore_88 : decode cX12_restore 88 = .ok (.iconst 0, 1) := by decide +kernel
theorem dX12_restore_89 : decode cX12_restore 89 = .ok (.putfield 245, 3) := by decide +kernel
theorem dX12_restore_92 : decode cX12_restore 92 = .ok (.iconst 1, 1) := by decide +kernel
theorem dX12_restore_93 : decode cX12_restore 93 = .ok (.ireturn, 1) := by decide +kernel
theorem dX12_count_0 : decode cX12_count 0 = .ok (.aload_n 0, 1) := by decide +kernel
theorem dX12_count_1 : decode cX12_count 1 = .ok (.iconst 0, 1) := by decide +kernel
theorem dX12_count_2 : decode cX12_count 2 = .ok (.putfield 1, 3) := by decide +kernel
theorem dX12_count_5 : decode cX12_count 5 = .ok (.iload_n 1, 1) := by decide +kernel
theorem dX12_count_6 : decode cX12_count 6 = .ok (.tableswitch 78 0 5 #[38, 45, 52, 59, 66, 73], 38) := by decide +kernel
theorem dX12_count_44 : decode cX12_count 44 = .ok (.aload_n 0, 1) := by decide +kernel
theorem dX12_count_45 : decode cX12_count 45 = .ok (.getfield 98, 3) := by decide +kernel
theorem dX12_count_48 : decode cX12_count 48 = .ok (.iconst 0, 1) := by decide +kernel
theorem dX12_count_49 : decode cX12_count 49 = .ok (.iaload, 1) := by decide +kernel
theorem dX12_count_50 : decode cX12_count 50 = .ok (.ireturn, 1) := by decide +kernel
theorem dX12_count_51 : decode cX12_count 51 = .ok (.aload_n 0, 1) := by decide +kernel
theorem dX12_count_52 : decode cX12_count 52 = .ok (.getfield 98, 3) := by decide +kernel
theorem dX12_count_55 : decode cX12_count 55 = .ok (.iconst 1, 1) := by decide +kernel
theorem dX12_count_56 : decode cX12_count 56 = .ok (.iaload, 1) := by decide +kernel
theorem dX12_count_57 : decode cX12_count 57 = .ok (.ireturn, 1) := by decide +kernel
theorem dX12_count_58 : decode cX12_count 58 = .ok (.aload_n 0, 1) := by decide +kernel
theorem dX12_count_59 : decode cX12_count 59 = .ok (.getfield 98, 3) := by decide +kernel
theorem dX12_count_62 : decode cX12_count 62 = .ok (.iconst 2, 1) := by decide +kernel
theorem dX12_count_63 : decode cX12_count 63 = .ok (.iaload, 1) := by decide +kernel
theorem dX12_count_64 : decode cX12_count 64 = .ok (.ireturn, 1) := by decide +kernel
theorem dX12_count_65 : decode cX12_count 65 = .ok (.aload_n 0, 1) := by decide +kernel
theorem dX12_count_66 : decode cX12_count 66 = .ok (.getfield 98, 3) := by decide +kernel
theorem dX12_count_69 : decode cX12_count 69 = .ok (.iconst 3, 1) := by decide +kernel
theorem dX12_count_70 : decode cX12_count 70 = .ok (.iaload, 1) := by decide +kernel
theorem dX12_count_71 : decode cX12_count 71 = .ok (.ireturn, 1) := by decide +kernel
theorem dX12_count_72 : decode cX12_count 72 = .ok (.aload_n 0, 1) := by decide +kernel
theorem dX12_count_73 : decode cX12_count 73 = .ok (.getfield 98, 3) := by decide +kernel
theorem dX12_count_76 : decode cX12_count 76 = .ok (.iconst 4, 1) := by decide +kernel
theorem dX12_count_77 : decode cX12_count 77 = .ok (.iaload, 1) := by decide +kernel
theorem dX12_count_78 : decode cX12_count 78 = .ok (.ireturn, 1) := by decide +kernel
theorem dX12_count_79 : decode cX12_count 79 = .ok (.aload_n 0, 1) := by decide +kernel
theorem dX12_count_80 : decode cX12_count 80 = .ok (.getfield 11, 3) := by decide +kernel
theorem dX12_count_83 : decode cX12_count 83 = .ok (.ireturn, 1) := by decide +kernel
theorem dX12_count_84 : decode cX12_count 84 = .ok (.iconst (-1), 1) := by decide +kernel
theorem dX12_count_85 : decode cX12_count 85 = .ok (.ireturn, 1) := by decide +kernel
